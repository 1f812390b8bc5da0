/** Each promise of the document: ordinary inputs, the edges that it names, wrong inputs. */
public final class PromisesTest {
    private static final int NONE = RaisedArms.NONE, UNKNOWN = RaisedArms.UNKNOWN, OUTSIDE = RaisedArms.OUTSIDE;
    private static final int NOT = RaisedArms.NOT, FULL = RaisedArms.FULL;
    private static final int LOW = Integer.MIN_VALUE, HIGH = Integer.MAX_VALUE;
    private static final Checks C = new Checks();

    public static void main(String[] args) {
        newObject();
        writeAndErase();
        faultsOfWords();
        faultsOfNumbers();
        faultsOfBlanksAndEnds();
        hallDoesLines();
        person();
        worth();
        as();
        tell();
        orderAndNext();
        vote();
        voteWithWatch();
        resultAndHeld();
        keepAndBack();
        carriesAndGain();
        settles();
        best();
        bestOfSeveral();
        put();
        turn();
        bought();
        fair();
        hour();
        rowsJudged();
        arms();
        count();
        C.end("PromisesTest");
    }

    // Promise 1
    private static void newObject() {
        RaisedArms x = new RaisedArms();
        int[] due = {0, 0, 2, 0, 0, 0};
        for (int what = 0; what < due.length; what++) {
            C.due("new: count(" + what + ")", x.count(what), due[what]);
        }
        C.due("new: person", x.person(0, 0), UNKNOWN);
        C.due("new: order", x.order(0), NONE);
        C.due("new: vote", x.vote(), NOT);
        C.due("new: back", x.back(0), NOT);
        C.due("new: carries", x.carries(), 0);
        C.due("new: settles", x.settles(), NOT);
        C.due("new: put", x.put(0, 0), NONE);
        C.due("new: fair", x.fair(NONE), NOT);
        C.due("new: hour", x.hour(99), 0);
        C.due("new: judge", x.judge(), NONE);
        C.due("new: forget", x.forget(), 0);
        C.due("new: erase", x.erase(), 0);
        C.due("new: fault", x.fault(), 0);
        C.due("new: keep", x.keep(0), 0);
        C.due("new: back to what was kept", x.back(0), 0);
    }

    // Promises 2 and 3
    private static void writeAndErase() {
        RaisedArms x = new RaisedArms();
        C.due("write n 0", x.write(0, 0), OUTSIDE);
        C.due("write n 9", x.write(0, 9), OUTSIDE);
        C.due("write n least", x.write(0, LOW), OUTSIDE);
        C.due("write n greatest", x.write(0, HIGH), OUTSIDE);
        C.due("write a byte", x.write('h' | 'x' << 8, 1), 1);
        C.due("write three", x.write('a' | 'l' << 8 | 'l' << 16 | 'x' << 24, 3), 4);
        C.due("only n bytes are written", x.fault(), NONE);
        C.due("erase", x.erase(), 4);
        C.due("erased", x.count(5), 0);
        C.due("erase again", x.erase(), 0);
        for (int i = 1; i <= 24; i++) {
            C.due("write to 192", x.write(-1L, 8), 8 * i);
        }
        C.due("write to 199", x.write(0, 7), 199);
        C.due("write two more", x.write(0, 2), FULL);
        C.due("OUTSIDE ahead of FULL", x.write(0, 9), OUTSIDE);
        C.due("nothing was written", x.count(5), 199);
        C.due("write the last", x.write(0, 1), 200);
        C.due("write one more", x.write(0, 1), FULL);
        C.due("a byte 255 is a TOKEN", x.fault(), 0);
        C.due("erase all", x.erase(), 200);
    }

    // Promise 4
    private static void faultsOfWords() {
        RaisedArms x = new RaisedArms();
        String[] well = {"hall", "plain 0 0", "watch 30 9", "stout 00 00", "told 05 09", "matter 1", "matter 9", "hold 1", "hold 09"};
        for (String text : well) {
            C.due(text, Checks.fault(x, text), NONE);
        }
        C.due("an unknown word", Checks.fault(x, "hall;halls"), 5);
        C.due("half a word", Checks.fault(x, "hal"), 0);
        C.due("a capital", Checks.fault(x, "Hall"), 0);
        C.due("a capital behind a word", Checks.fault(x, "hallX"), 4);
        C.due("a number for a word", Checks.fault(x, "7"), 0);
        C.due("a word for a number", Checks.fault(x, "plain hall"), 6);
        C.due("a sign", Checks.fault(x, "plain -1 2"), 6);
        C.due("a point", Checks.fault(x, "hall."), 4);
        C.due("a word too many", Checks.fault(x, "hall hall"), 5);
        C.due("a number too many", Checks.fault(x, "plain 1 2 3"), 10);
        String six = "plain 1 1;watch 1 1;stout 1 1;told 1 1;plain 1 1;plain 1 1";
        C.due("six people", Checks.fault(x, six), NONE);
        C.due("a seventh", Checks.fault(x, six + ";told 1 1"), six.length() + 1);
        C.due("a seventh, with another fault behind its word", Checks.fault(x, six + ";told x"), six.length() + 1);
        C.due("six, then hall", Checks.fault(x, six + ";hall;told 1 1"), NONE);
        String five = "matter 1;matter 2;matter 3;matter 4;matter 5";
        C.due("five matters", Checks.fault(x, five), NONE);
        C.due("a sixth", Checks.fault(x, five + "; matter 1"), five.length() + 2);
        C.due("five, then hall", Checks.fault(x, five + ";hall;matter 1"), NONE);
        RaisedArms full = Checks.hall(six, five);
        C.due("a seventh, of a text behind", Checks.fault(full, "stout 1 1"), 0);
        C.due("a sixth, of a text behind", Checks.fault(full, "hold 2;matter 1"), 7);
    }

    private static void faultsOfNumbers() {
        RaisedArms x = new RaisedArms();
        C.due("ARM 31", Checks.fault(x, "watch 31 0"), 6);
        C.due("REST 10", Checks.fault(x, "told 30 10"), 8);
        C.due("ARM of three digits", Checks.fault(x, "stout 001 0"), 6);
        C.due("NEED 0", Checks.fault(x, "matter 00"), 7);
        C.due("NEED 10", Checks.fault(x, "matter 10"), 7);
        C.due("HOLD 0", Checks.fault(x, "hold 0"), 5);
        C.due("HOLD 10", Checks.fault(x, "hold 10"), 5);
        C.due("for nobody", Checks.fault(x, "for 0 0 1"), 4);
        C.due("for no matter", Checks.fault(x, "plain 1 1;for 0 0 1"), 16);
        C.due("against no matter", Checks.fault(x, "plain 1 1;against 0 0 1"), 20);
        C.due("counts of nobody", Checks.fault(x, "counts 0 1"), 7);
        RaisedArms two = Checks.hall("plain 1 1;told 2 2;matter 5");
        C.due("for 1 0 0", Checks.fault(two, "for 1 0 0"), NONE);
        C.due("for 1 0 9", Checks.fault(two, "for 01 00 09"), NONE);
        C.due("for 2", Checks.fault(two, "for 2 0 9"), 4);
        C.due("for, matter 1", Checks.fault(two, "for 1 1 9"), 6);
        C.due("for, worth 10", Checks.fault(two, "for 1 0 10"), 8);
        C.due("against, worth 10", Checks.fault(two, "against 1 0 10"), 12);
        C.due("against 2", Checks.fault(two, "against 2 0 10"), 8);
        C.due("counts 9", Checks.fault(two, "counts 1 9"), NONE);
        C.due("counts 0", Checks.fault(two, "counts 1 0"), 9);
        C.due("counts 10", Checks.fault(two, "counts 1 10"), 9);
        C.due("counts of 2", Checks.fault(two, "counts 2 1"), 7);
        C.due("one more behind a line", Checks.fault(two, "plain 0 0;matter 1;for 2 1 3"), NONE);
        C.due("nobody behind hall", Checks.fault(two, "hall;counts 0 1"), 12);
        C.due("no matter behind hall", Checks.fault(two, "hall;plain 0 0;for 0 0 1"), 21);
    }

    private static void faultsOfBlanksAndEnds() {
        RaisedArms x = new RaisedArms();
        C.due("an empty text", Checks.fault(x, ""), 0);
        C.due("blanks alone", Checks.fault(x, "   "), 3);
        C.due("more blanks between", Checks.fault(x, "plain   3    4 ;  hold  2"), NONE);
        C.due("a tab is no blank", Checks.fault(x, "plain\t3 4"), 5);
        C.due("the end behind a word", Checks.fault(x, "plain"), 5);
        C.due("the end behind blanks", Checks.fault(x, "plain 3  "), 9);
        C.due("a ; too soon", Checks.fault(x, "plain 3;hall"), 7);
        C.due("the end behind ;", Checks.fault(x, "hall;"), 5);
        C.due("two ;", Checks.fault(x, "hall;;hall"), 5);
        C.due("a ; first", Checks.fault(x, ";hall"), 0);
        String twelve = "hall;hall;hall;hall;hall;hall;hall;hall;hall;hall;hall;hall";
        C.due("twelve lines", Checks.fault(x, twelve), NONE);
        C.due("a ; behind twelve", Checks.fault(x, twelve + " ;"), twelve.length() + 1);
        C.due("thirteen lines", Checks.fault(x, twelve + ";hall"), twelve.length());
    }

    // Promise 5
    private static void hallDoesLines() {
        RaisedArms x = Checks.hall("plain 9 1;matter 5;for 0 0 3;hold 4;counts 0 7");
        C.due("the text is empty", x.count(5), 0);
        x.vote();
        x.keep(0);
        x.row(0, 1, 1, 1);
        Checks.write(x, "hall;oops");
        C.due("hall with a FAULT", x.hall(), NOT);
        C.due("the text stays", x.count(5), 9);
        C.due("people stay", x.count(0), 1);
        C.due("the evening stays", x.count(3), 1);
        C.due("counts told stay", x.count(4), 1);
        C.due("what was kept stays", x.back(0), 1);
        x.erase();
        Checks.write(x, "told 5 5;matter 2;against 1 1 8;against 0 0 3");
        C.due("hall", x.hall(), 4);
        C.due("people come together", x.count(0), 2);
        C.due("matters come together", x.count(1), 2);
        C.due("HOLD stays", x.count(2), 4);
        C.due("COUNTS stays", x.person(0, 3), 7);
        C.due("a WORTH told anew", x.worth(0, 0), 97);
        C.due("a WORTH told", x.worth(1, 1), 92);
        C.due("no matter was put", x.count(3), 0);
        C.due("no counts are told", x.count(4), 0);
        C.due("nothing is kept", x.back(0), NOT);
        C.due("all arms are LEFT", x.person(0, 4), 9);
        x.tell(1, 1, 3);
        x.next(1);
        Checks.write(x, "hold 1");
        C.due("hall again", x.hall(), 1);
        C.due("TOLD ones hold 0", x.tell(1, 1, 2), 0);
        C.due("ORDER by numbers", x.order(0), 0);
        Checks.write(x, "hall;plain 3 3;matter 9");
        C.due("hall of nobody first", x.hall(), 3);
        C.due("one", x.count(0), 1);
        C.due("one matter", x.count(1), 1);
        C.due("HOLD 2", x.count(2), 2);
        C.due("COUNTS 1", x.person(0, 3), 1);
        C.due("WORTH 0", x.worth(0, 0), 100);
    }

    // Promise 6
    private static void person() {
        RaisedArms x = Checks.hall("plain 30 0;watch 0 9;stout 7 5;told 12 3;counts 2 8");
        int[][] due = {{0, 30, 0, 1, 30}, {1, 0, 9, 1, 0}, {2, 7, 5, 8, 7}, {3, 12, 3, 1, 12}};
        for (int person = 0; person < 4; person++) {
            for (int what = 0; what < 5; what++) {
                C.due("person(" + person + ", " + what + ")", x.person(person, what), due[person][what]);
            }
        }
        C.due("person 4", x.person(4, 0), UNKNOWN);
        C.due("person -1", x.person(-1, 0), UNKNOWN);
        C.due("UNKNOWN first", x.person(LOW, HIGH), UNKNOWN);
        C.due("what -1", x.person(0, -1), OUTSIDE);
        C.due("what 5", x.person(0, 5), OUTSIDE);
    }

    // Promise 7
    private static void worth() {
        RaisedArms x = Checks.hall("plain 3 3;plain 3 3;matter 5;matter 5;for 1 0 9;against 0 1 9;against 1 1 0");
        C.due("worth 9", x.worth(1, 0), 109);
        C.due("worth -9", x.worth(0, 1), 91);
        C.due("worth 0 at first", x.worth(0, 0), 100);
        C.due("worth 0 against", x.worth(1, 1), 100);
        C.due("no such one", x.worth(2, 0), UNKNOWN);
        C.due("no such matter", x.worth(0, 2), UNKNOWN);
        C.due("below 0", x.worth(-1, 0), UNKNOWN);
        C.due("matter below 0", x.worth(0, -1), UNKNOWN);
    }

    // Promise 8
    private static void as() {
        RaisedArms x = Checks.hall("plain 10 0;watch 10 0;stout 10 0;told 10 0;matter 5;matter 5",
                "for 0 0 3;against 1 0 6;against 2 0 1;for 3 0 1;hold 3");
        boolean[][] is = {{true, true, false, false, false}, {true, true, true, false, false},
            {true, false, false, true, false}, {true, false, false, false, true}};
        x.tell(3, 0, 8);
        x.tell(3, 1, 8);
        int[] wants = {9, 10, 10, 8};
        for (int person = 0; person < 4; person++) {
            for (int kind = 0; kind < 5; kind++) {
                int due = is[person][kind] ? wants[person] : NOT;
                C.due("as(" + person + ", " + kind + ", 0)", x.as(person, kind, 0), due);
            }
            C.due("neither FOR nor AGAINST: " + person, x.as(person, 0, 1), 0);
        }
        x.tell(3, 0, 99);
        C.due("no more than is LEFT", x.as(3, 4, 0), 10);
        x.vote();
        C.due("of a matter that was put, by what is LEFT", x.as(0, 1, 0), 1);
        C.due("no such one", x.as(4, 0, 0), UNKNOWN);
        C.due("no such matter", x.as(0, 9, 2), UNKNOWN);
        C.due("kind -1", x.as(0, -1, 0), OUTSIDE);
        C.due("kind 5", x.as(0, 5, 0), OUTSIDE);
    }

    // Promise 9
    private static void tell() {
        RaisedArms x = Checks.hall("told 5 0;plain 5 0;watch 5 0;stout 5 0;matter 5;matter 5");
        C.due("tell", x.tell(0, 0, 99), 0);
        C.due("tell again", x.tell(0, 0, 0), 99);
        C.due("tell of another", x.tell(0, 1, 4), 0);
        C.due("seconds -1", x.tell(0, 1, -1), OUTSIDE);
        C.due("seconds 100", x.tell(0, 1, 100), OUTSIDE);
        C.due("nothing changed", x.tell(0, 1, 4), 4);
        C.due("PLAIN", x.tell(1, 0, 1), NOT);
        C.due("WATCH", x.tell(2, 0, 1), NOT);
        C.due("STOUT", x.tell(3, 0, 1), NOT);
        C.due("OUTSIDE ahead of NOT", x.tell(3, 0, 100), OUTSIDE);
        C.due("no such one", x.tell(4, 0, 100), UNKNOWN);
        C.due("no such matter", x.tell(0, 2, 100), UNKNOWN);
        x.vote();
        C.due("of a matter that was put", x.tell(0, 0, 6), 0);
        C.due("it is told", x.tell(0, 0, 7), 6);
    }

    // Promises 10 and 11
    private static void orderAndNext() {
        RaisedArms x = Checks.hall("matter 5;matter 5;matter 5;matter 5;matter 5");
        dueOrder(x, "at first", 0, 1, 2, 3, 4);
        C.due("order 5", x.order(5), NONE);
        C.due("order greatest", x.order(HIGH), NONE);
        C.due("order -1", x.order(-1), OUTSIDE);
        C.due("next 3", x.next(3), 5);
        dueOrder(x, "behind next(3)", 3, 0, 1, 2, 4);
        C.due("next 3 again", x.next(3), 5);
        dueOrder(x, "likewise", 3, 0, 1, 2, 4);
        x.vote();
        C.due("next 3, was put", x.next(3), NOT);
        C.due("next 4", x.next(4), 4);
        dueOrder(x, "those that were put stand first", 3, 4, 0, 1, 2);
        C.due("next 5", x.next(5), UNKNOWN);
        C.due("next -1", x.next(-1), UNKNOWN);
        x.vote();
        x.vote();
        x.vote();
        C.due("the last one", x.next(2), 1);
        x.vote();
        C.due("none is to come", x.next(2), NOT);
        dueOrder(x, "at the end", 3, 4, 0, 1, 2);
    }

    private static void dueOrder(RaisedArms x, String when, int... due) {
        for (int i = 0; i < due.length; i++) {
            C.due("order(" + i + ") " + when, x.order(i), due[i]);
        }
    }

    // Promise 12
    private static void vote() {
        // 6 tenths: 6 of 10 are not above, 7 of 11 are.
        RaisedArms x = Checks.hall("stout 6 4;stout 4 9;matter 6;matter 6;for 0 0 1;against 1 0 1;for 0 1 1;against 1 1 1");
        C.due("just the NEED", x.vote(), 0);
        C.due("LEFT and REST", x.person(0, 4), 4);
        C.due("REST, but ARM at most", x.person(1, 4), 4);
        C.due("4 to 4", x.vote(), 0);
        C.due("none is to come", x.vote(), NOT);
        RaisedArms y = Checks.hall("stout 7 0;stout 4 0;matter 6;for 0 0 1;against 1 0 1");
        C.due("above the NEED", y.vote(), 1);
        RaisedArms counted = Checks.hall("stout 2 0;stout 5 0;matter 5;for 0 0 1;against 1 0 1;counts 0 3");
        C.due("seconds that count 3", counted.vote(), 1);
        C.due("6 seconds FOR", counted.result(0, 0), 6);
        RaisedArms nobody = Checks.hall("plain 5 5;matter 1");
        C.due("no arm is up", nobody.vote(), 0);
        RaisedArms tired = Checks.hall("plain 9 2;matter 5;matter 5;matter 5;for 0 0 3;for 0 2 9;hold 2");
        C.due("FOR alone", tired.vote(), 1);
        C.due("tired", tired.person(0, 4), 5);
        tired.vote();
        C.due("rested", tired.person(0, 4), 7);
        tired.vote();
        C.due("held no more than was LEFT", tired.held(0, 2), 7);
    }

    private static void voteWithWatch() {
        // FOR 1 a second of 9, AGAINST 1 a second of 3: ahead of second 4 it stands 3 to 3, ahead of 5 it is settled.
        RaisedArms x = Checks.hall("watch 9 0;watch 3 0;matter 5;for 0 0 9;against 1 0 9");
        C.due("carried", x.vote(), 1);
        C.due("the watching one lowers", x.held(0, 0), 4);
        C.due("the other was tired", x.held(1, 0), 3);
        // Settled ahead of the first second: who is AGAINST could hold 1 second, and NEED is 9 tenths.
        RaisedArms early = Checks.hall("watch 9 0;plain 1 0;matter 9;against 0 0 9;for 1 0 9;counts 1 1");
        C.due("not settled: one FOR alone would do", early.settles(), 2);
        early.vote();
        C.due("held till it was settled", early.held(0, 0), 1);
        RaisedArms first = Checks.hall("watch 9 0;matter 5;against 0 0 9");
        C.due("settled ahead of the first", first.settles(), 1);
        C.due("not carried", first.vote(), 0);
        C.due("the arm was never up", first.held(0, 0), 0);
        C.due("no second", first.result(0, 3), 0);
        C.due("nothing was lost", first.person(0, 4), 9);
        // PLAIN ones do not look whether it is settled.
        RaisedArms plain = Checks.hall("plain 9 0;matter 5;against 0 0 9");
        plain.vote();
        C.due("PLAIN holds on", plain.held(0, 0), 9);
        // By all that is LEFT, not by what one WANTS: plain 1 wants 2 of 30.
        RaisedArms left = Checks.hall("watch 20 0;plain 30 0;matter 5;for 0 0 9;against 1 0 1");
        left.vote();
        C.due("AGAINST down: settled ahead of 4", left.held(0, 0), 3);
    }

    // Promises 13 and 14
    private static void resultAndHeld() {
        RaisedArms x = Checks.hall("stout 5 0;plain 30 0;plain 9 9;matter 4;matter 4;for 0 0 1;against 1 0 4;counts 0 2");
        C.due("not put", x.result(0, 0), NOT);
        C.due("OUTSIDE ahead of NOT", x.result(0, 4), OUTSIDE);
        C.due("held, not put", x.held(0, 0), NOT);
        C.due("carried", x.vote(), 1);
        int[] due = {10, 8, 1, 8};
        for (int what = 0; what < 4; what++) {
            C.due("result(0, " + what + ")", x.result(0, what), due[what]);
        }
        C.due("held by 0", x.held(0, 0), 5);
        C.due("held by 1", x.held(1, 0), 8);
        C.due("held by 2", x.held(2, 0), 0);
        C.due("held by 3", x.held(3, 0), UNKNOWN);
        C.due("held of 2", x.held(0, 2), UNKNOWN);
        C.due("held of the other", x.held(0, 1), NOT);
        C.due("result of the other", x.result(1, 0), NOT);
        C.due("result of 2", x.result(2, 0), UNKNOWN);
        C.due("UNKNOWN first", x.result(-1, -1), UNKNOWN);
        C.due("what -1", x.result(0, -1), OUTSIDE);
        C.due("what 4", x.result(0, 4), OUTSIDE);
        x.vote();
        C.due("the first stays", x.result(0, 1), 8);
        C.due("no arm", x.result(1, 3), 0);
    }

    // Promises 15 and 16
    private static void keepAndBack() {
        RaisedArms x = Checks.hall("told 9 1;stout 8 2;matter 5;matter 5;matter 5;for 0 0 1;for 0 1 1;against 1 2 2");
        C.due("keep 2", x.keep(2), UNKNOWN);
        C.due("keep -1", x.keep(-1), UNKNOWN);
        C.due("back 2", x.back(2), UNKNOWN);
        C.due("back -1", x.back(-1), UNKNOWN);
        C.due("nothing is kept", x.back(1), NOT);
        x.tell(0, 0, 5);
        x.next(2);
        x.vote();
        C.due("keep", x.keep(1), 1);
        C.due("the other is not kept", x.back(0), NOT);
        x.tell(0, 0, 2);
        x.row(0, 1, 1, 0);
        x.next(1);
        x.vote();
        x.vote();
        C.due("keep the end", x.keep(0), 3);
        C.due("told otherwise", x.held(0, 0), 2);
        C.due("back", x.back(1), 1);
        dueOrder(x, "as it was kept", 2, 0, 1);
        C.due("put as it was kept", x.count(3), 1);
        C.due("LEFT as it was kept", x.person(1, 4), 2);
        C.due("result as it was kept", x.result(2, 1), 8);
        C.due("held as it was kept", x.held(1, 2), 8);
        C.due("not put then", x.result(0, 0), NOT);
        C.due("counts told are no part of it", x.count(4), 1);
        C.due("told as it was kept", x.tell(0, 0, 5), 5);
        x.vote();
        C.due("held by what was told then", x.held(0, 0), 5);
        C.due("back once more", x.back(1), 1);
        C.due("forth", x.back(0), 3);
        C.due("held at the end", x.held(0, 0), 2);
        Checks.write(x, "hold 3");
        x.hall();
        C.due("a text: nothing is kept", x.back(0), NOT);
        C.due("likewise", x.back(1), NOT);
    }

    // Promises 17 and 18
    private static void carriesAndGain() {
        RaisedArms x = Checks.hall("stout 9 2;plain 9 0;matter 5;matter 5;matter 5",
                "for 0 0 3;against 1 0 1;against 0 1 5;for 1 1 2;for 0 2 7;against 1 2 9");
        // 9 to 2; 2 to 4; then 2 to 3.
        C.due("carries", x.carries(), 3);
        C.due("gain of 0", x.gain(0), 98);
        C.due("gain of 1", x.gain(1), 101);
        C.due("gain of 2", x.gain(2), UNKNOWN);
        C.due("gain of -1", x.gain(-1), UNKNOWN);
        C.due("nothing changed", x.count(3), 0);
        C.due("no arm tired", x.person(0, 4), 9);
        x.next(2);
        // 9 to 9; 2 to 0; 0 to 2.
        C.due("in another ORDER", x.carries(), 1);
        C.due("gain of it", x.gain(1), 99);
        x.next(0);
        x.vote();
        C.due("what was put is not foretold", x.carries(), 0);
        C.due("nor gained", x.gain(0), 100);
    }

    // Promise 19
    private static void settles() {
        RaisedArms x = Checks.hall("plain 5 0;plain 9 0;matter 5;matter 5;for 0 0 9;against 1 0 1;for 0 1 1;hold 3");
        // FOR 5, AGAINST 3 of 9: ahead of 4 it is 3 to 3 and 6 more were LEFT; ahead of 5 it is 4 to 3.
        C.due("settles", x.settles(), 5);
        C.due("nothing changed", x.count(3), 0);
        x.vote();
        C.due("nobody WANTS", x.settles(), 1);
        x.vote();
        C.due("none is to come", x.settles(), NOT);
        // Both have much LEFT at the end: neither way is sure, to the second with which it ends.
        RaisedArms open = Checks.hall("plain 30 0;plain 30 0;matter 5;for 0 0 1;against 1 0 1");
        C.due("ahead of none", open.settles(), NONE);
        RaisedArms last = Checks.hall("plain 4 0;plain 4 0;matter 5;for 0 0 9;against 1 0 9");
        C.due("ahead of the one with which it ends", last.settles(), 5);
    }

    // Promise 20
    private static void best() {
        RaisedArms x = Checks.hall("plain 10 0;stout 3 3;matter 5;matter 5;matter 5;matter 5",
                "for 0 0 2;against 1 0 1;for 0 1 5;against 1 1 1;for 0 2 4;against 1 2 1;for 0 3 9;against 1 3 1");
        // Each takes four seconds; with ten, two of three can be had.
        C.due("worth of 3", x.best(0, 3, NONE), 109);
        dueBest(x, 0, 3, 0, 4, 4);
        C.due("worth of 2", x.best(0, 2, NONE), 107);
        dueBest(x, 0, 2, 4, 4);
        C.due("worth of 1", x.best(0, 1, NONE), 102);
        dueBest(x, 0, 1, 4);
        C.due("there are not so many", x.best(0, 1, 1), NONE);
        C.due("nor so many", x.best(0, 3, HIGH), NONE);
        C.due("k 0", x.best(0, 0, NONE), OUTSIDE);
        C.due("k 4", x.best(0, 4, NONE), OUTSIDE);
        C.due("i -2", x.best(0, 1, -2), OUTSIDE);
        C.due("UNKNOWN first", x.best(2, 0, -2), UNKNOWN);
        C.due("nothing changed", x.person(0, 0), 0);
        x.vote();
        x.vote();
        x.vote();
        // PLAIN held 4 and 6; nothing is LEFT of 0, so that 1 need not hold at all.
        C.due("fewer come than k", x.best(1, 3, 1), NONE);
        C.due("one comes", x.best(1, 3, NONE), 100);
        dueBest(x, 1, 3, 0);
        x.vote();
        C.due("none is to come", x.best(0, 1, NONE), NOT);
        C.due("OUTSIDE ahead of NOT", x.best(0, 4, NONE), OUTSIDE);
    }

    private static void dueBest(RaisedArms x, int person, int k, int... due) {
        for (int i = 0; i < due.length; i++) {
            C.due("best(" + person + ", " + k + ", " + i + ")", x.best(person, k, i), due[i]);
        }
    }

    private static void bestOfSeveral() {
        // Two matters of the same WORTH, one to be had: the first one's fewest seconds.
        RaisedArms same = Checks.hall("watch 5 0;stout 3 3;matter 5;matter 5;for 0 0 4;against 1 0 1;for 0 1 4;against 1 1 1");
        C.due("one of two", same.best(0, 2, NONE), 104);
        dueBest(same, 0, 2, 0, 4);
        // Fewest seconds together come ahead of the first one's fewest: 1 second of the first, or 3 of the second.
        RaisedArms fewest = Checks.hall("stout 3 0;plain 9 0;matter 5;matter 5;for 0 0 4;for 0 1 4;against 1 1 1");
        C.due("the cheaper", fewest.best(0, 2, NONE), 104);
        dueBest(fewest, 0, 2, 1, 0);
        // AGAINST: not CARRIED is worth nothing, CARRIED less.
        RaisedArms against = Checks.hall("plain 9 0;stout 4 0;matter 5;against 0 0 7;for 1 0 1;hold 1");
        C.due("turned", against.best(0, 1, NONE), 100);
        dueBest(against, 0, 1, 4);
        // It cannot be turned: no second is spent.
        RaisedArms vain = Checks.hall("plain 3 0;stout 4 0;matter 5;against 0 0 7;for 1 0 1");
        C.due("in vain", vain.best(0, 1, NONE), 93);
        dueBest(vain, 0, 1, 0);
        // Neither FOR nor AGAINST.
        RaisedArms neither = Checks.hall("told 3 0;stout 4 0;matter 5;for 1 0 1");
        neither.tell(0, 0, 3);
        C.due("neither", neither.best(0, 1, NONE), 100);
        dueBest(neither, 0, 1, 0);
        C.due("told as before", neither.tell(0, 0, 0), 3);
    }

    // Promise 21
    private static void put() {
        // The arm of 0 does for one matter, and is AGAINST 2.
        RaisedArms x = Checks.hall("stout 6 0;plain 9 0;matter 5;matter 5;matter 5;for 0 0 1;for 0 1 1;against 0 2 1",
                "for 1 2 2");
        C.due("set 0", x.put(0, 0), 0);
        C.due("set 1", x.put(1, 0), 0);
        duePut(x, 1, 0, 1, 2);
        duePut(x, 2, 1, 0, 2);
        duePut(x, 3, NONE, NONE, NONE);
        duePut(x, 4, 0, 1, 2);
        duePut(x, 6, 1, 0, 2);
        duePut(x, 7, NONE, NONE, NONE);
        C.due("there are not so many", x.put(1, 3), NONE);
        C.due("i -1", x.put(1, -1), OUTSIDE);
        C.due("a matter too many", x.put(8, 0), OUTSIDE);
        C.due("set below 0", x.put(-1, 0), OUTSIDE);
        C.due("set least", x.put(LOW, 0), OUTSIDE);
        x.next(2);
        C.due("ORDER does not matter", x.put(4, 0), 0);
        dueOrder(x, "is as it was", 2, 0, 1);
        x.vote();
        C.due("a matter that was put", x.put(4, 0), OUTSIDE);
        duePut(x, 0, 0, 1);
        C.due("two come", x.put(0, 2), NONE);
        x.vote();
        x.vote();
        C.due("none comes", x.put(0, 0), NONE);
    }

    private static void duePut(RaisedArms x, int set, int... due) {
        for (int i = 0; i < due.length; i++) {
            C.due("put(" + set + ", " + i + ")", x.put(set, i), due[i]);
        }
    }

    // Promise 22
    private static void turn() {
        RaisedArms x = Checks.hall("plain 9 0;stout 11 0;plain 5 5;matter 5;matter 5;for 0 0 1;against 1 0 1;for 0 1 1");
        C.due("2 seconds against 11", x.turn(0, 0), 6);
        C.due("by who is AGAINST", x.turn(1, 0), NONE);
        C.due("by who is neither", x.turn(2, 0), NONE);
        C.due("carried anyway", x.turn(2, 1), 1);
        C.due("COUNTS are as they were", x.person(0, 3), 1);
        C.due("no such one", x.turn(3, 0), UNKNOWN);
        C.due("no such matter", x.turn(0, 2), UNKNOWN);
        x.vote();
        C.due("it was put", x.turn(0, 0), NOT);
        C.due("UNKNOWN first", x.turn(-1, 0), UNKNOWN);
        RaisedArms never = Checks.hall("plain 9 0;stout 18 0;matter 5;for 0 0 1;against 1 0 1");
        C.due("18 to 18", never.turn(0, 0), NONE);
        RaisedArms just = Checks.hall("plain 9 0;stout 17 0;matter 5;for 0 0 1;against 1 0 1;counts 0 9");
        C.due("18 to 17", just.turn(0, 0), 9);
    }

    // Promise 23
    private static void bought() {
        RaisedArms x = Checks.hall("plain 9 0;stout 20 0;matter 9;matter 9;matter 1;for 0 0 1;against 1 0 1;for 0 1 1");
        // 2 + b above 9 tenths of 22 + b: b above 178.
        C.due("179 seconds", x.bought(0), 179);
        C.due("carried anyway", x.bought(1), 0);
        C.due("one second", x.bought(2), 1);
        C.due("no such matter", x.bought(3), UNKNOWN);
        C.due("below 0", x.bought(-1), UNKNOWN);
        x.vote();
        C.due("it was put", x.bought(0), NOT);
        RaisedArms edge = Checks.hall("stout 22 0;plain 0 0;matter 9;against 0 0 1");
        C.due("199 seconds", edge.bought(0), 199);
        RaisedArms over = Checks.hall("stout 23 0;plain 0 0;matter 9;against 0 0 1");
        C.due("208 seconds", over.bought(0), NONE);
        RaisedArms just = Checks.hall("stout 25 0;matter 8;against 0 0 1;counts 0 2");
        C.due("201 seconds", just.bought(0), NONE);
        RaisedArms last = Checks.hall("stout 22 0;stout 1 0;matter 5;against 0 0 1;against 1 0 1;counts 0 9");
        C.due("200 seconds", last.bought(0), 200);
    }

    // Promise 24
    private static void fair() {
        RaisedArms x = Checks.hall("plain 10 0;watch 15 0");
        C.due("how much", x.fair(NONE), 0);
        C.due("3 times 10", x.fair(0), 3);
        C.due("2 times 15", x.fair(1), 2);
        C.due("no such one", x.fair(2), UNKNOWN);
        C.due("no such one below", x.fair(-2), UNKNOWN);
        C.due("COUNTS stay", x.person(0, 3), 1);
        RaisedArms one = Checks.hall("told 30 9");
        C.due("one alone", one.fair(NONE), 0);
        C.due("of several the first", one.fair(0), 1);
        RaisedArms none = Checks.hall("plain 0 0;plain 7 0;plain 0 0");
        C.due("an arm of 0", none.fair(NONE), 7);
        C.due("its first", none.fair(0), 1);
        C.due("7 once", none.fair(1), 1);
        // 9 times 3 is 27, 1 times 29 is 29; 2 with 18 does not do.
        RaisedArms far = Checks.hall("plain 3 0;plain 29 0");
        C.due("2 apart", far.fair(NONE), 2);
        C.due("9", far.fair(0), 9);
        C.due("1", far.fair(1), 1);
    }

    // Promise 25
    private static void hour() {
        RaisedArms x = Checks.hall("plain 2 9;stout 1 9;matter 5;matter 5;for 0 0 3;against 1 0 1;for 0 1 3;against 1 1 1");
        // PLAIN holds 6 of each; STOUT all of the first.
        C.due("hour 0", x.hour(0), 0);
        C.due("hour 6: 6 to 6, nothing left", x.hour(6), 0);
        C.due("hour 7: 6 to 7, then 1 to 0", x.hour(7), 2);
        C.due("hour 99", x.hour(99), 2);
        C.due("hour 100", x.hour(100), OUTSIDE);
        C.due("hour -1", x.hour(-1), OUTSIDE);
        x.next(1);
        C.due("in ORDER", x.hour(99), 1);
        x.vote();
        C.due("all of them, those that were put too", x.hour(99), 1);
        C.due("nothing changed", x.count(3), 1);
        C.due("ARM as it was", x.person(0, 1), 2);
    }

    // Promises 26, 27 and 28
    private static void rowsJudged() {
        RaisedArms x = Checks.hall("matter 5;matter 9");
        C.due("nothing is wrong", x.judge(), NONE);
        C.due("row", x.row(0, 0, 0, 0), 1);
        C.due("row of 9 tenths", x.row(1, 999, 111, 0), 2);
        C.due("row above", x.row(1, 999, 110, 1), 3);
        C.due("all are right", x.judge(), NONE);
        C.due("wrongly not", x.row(0, 1, 0, 0), 4);
        C.due("wrongly carried", x.row(0, 0, 999, 1), 5);
        C.due("the first", x.judge(), 3);
        C.due("no such matter", x.row(2, -1, 0, 0), UNKNOWN);
        C.due("FOR -1", x.row(0, -1, 0, 0), OUTSIDE);
        C.due("FOR 1000", x.row(0, 1000, 0, 0), OUTSIDE);
        C.due("AGAINST -1", x.row(0, 0, -1, 0), OUTSIDE);
        C.due("AGAINST 1000", x.row(0, 0, 1000, 0), OUTSIDE);
        C.due("carried -1", x.row(0, 0, 0, -1), OUTSIDE);
        C.due("carried 2", x.row(0, 0, 0, 2), OUTSIDE);
        x.row(0, 0, 0, 0);
        x.row(0, 0, 0, 0);
        C.due("the eighth", x.row(0, 0, 0, 0), 8);
        C.due("one more", x.row(0, 0, 0, 0), FULL);
        C.due("OUTSIDE ahead of FULL", x.row(0, 0, 0, 2), OUTSIDE);
        C.due("UNKNOWN ahead of all", x.row(9, 0, 0, 2), UNKNOWN);
        C.due("forget", x.forget(), 8);
        C.due("forgotten", x.count(4), 0);
        C.due("forget again", x.forget(), 0);
        C.due("all are right", x.judge(), NONE);
        C.due("from 1 again", x.row(0, 5, 5, 1), 1);
        C.due("5 of 10 are not above", x.judge(), 0);
    }

    // Promise 29
    private static void arms() {
        RaisedArms x = Checks.hall("stout 10 0;told 0 0;plain 30 0;matter 5;for 0 0 1;hold 3");
        int[] due = {1, 0, 0, 2, 0, 0, 4, 0, 0, 8, 1008};
        for (int s = 0; s < due.length; s++) {
            C.due("arms(0, " + s + ")", x.arms(0, s), due[s]);
        }
        C.due("more than is LEFT", x.arms(0, 12), 0);
        C.due("nothing LEFT", x.arms(1, 0), 1023);
        C.due("nine times 3", x.arms(2, 27), 512);
        C.due("s 30", x.arms(2, 30), 0);
        C.due("s 31", x.arms(0, 31), OUTSIDE);
        C.due("s -1", x.arms(0, -1), OUTSIDE);
        C.due("no such one", x.arms(3, 31), UNKNOWN);
        C.due("below 0", x.arms(-1, 0), UNKNOWN);
        x.vote();
        C.due("by what is LEFT now", x.arms(0, 0), 1023);
    }

    // Promise 30
    private static void count() {
        RaisedArms x = Checks.hall("plain 1 1;plain 1 1;matter 5;matter 5;matter 5;hold 7");
        x.vote();
        x.row(0, 0, 0, 0);
        x.row(0, 0, 0, 0);
        x.row(0, 0, 0, 0);
        x.row(0, 0, 0, 0);
        x.write(0, 5);
        int[] due = {2, 3, 7, 1, 4, 5};
        for (int what = 0; what < due.length; what++) {
            C.due("count(" + what + ")", x.count(what), due[what]);
        }
        C.due("count(-1)", x.count(-1), OUTSIDE);
        C.due("count(6)", x.count(6), OUTSIDE);
    }
}
