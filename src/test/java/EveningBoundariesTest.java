/** The boundary cases of A VOTE and of promises 6 to 16, sentence by sentence. */
public final class EveningBoundariesTest {
    private static final int NONE = RaisedArms.NONE, UNKNOWN = RaisedArms.UNKNOWN, OUTSIDE = RaisedArms.OUTSIDE;
    private static final int NOT = RaisedArms.NOT;
    private static final int LOW = Integer.MIN_VALUE, HIGH = Integer.MAX_VALUE;
    private static final Checks C = new Checks();

    public static void main(String[] args) {
        personAtItsBounds();
        worthAtItsBounds();
        wantsAtTheirBounds();
        wantsOfNeither();
        kindsOverOneAnother();
        tellAtItsBounds();
        orderAtItsBounds();
        nextAtItsBounds();
        voteOfNone();
        carriedJustAboveNeed();
        carriedByNobody();
        greatestSums();
        armsAreUpAsLongAsWanted();
        leftAndRestAtTheirBounds();
        watchLowersAheadOfTheFirst();
        watchLowersWhenSettled();
        settledByWhoseArmWasUp();
        settledAgainstAtItsBound();
        resultAtItsBounds();
        heldAtItsBounds();
        keepAtItsBounds();
        backAtItsBounds();
        whatIsKept();
        C.end("EveningBoundariesTest");
    }

    private static RaisedArms full() {
        return Checks.hall("plain 0 0;watch 30 9;stout 1 1;told 30 0;plain 30 9;told 9 3;matter 1;matter 2;matter 3;matter 4;matter 9;hold 9",
                "counts 5 9;for 4 4 9;against 3 0 9;for 5 0 1");
    }

    // Promise 6
    private static void personAtItsBounds() {
        RaisedArms x = full();
        C.due("the first: KIND", x.person(0, 0), 0);
        C.due("the last: KIND", x.person(5, 0), 3);
        C.due("ARM 0", x.person(0, 1), 0);
        C.due("ARM 30", x.person(1, 1), 30);
        C.due("REST 0", x.person(0, 2), 0);
        C.due("REST 9", x.person(1, 2), 9);
        C.due("COUNTS 1", x.person(0, 3), 1);
        C.due("COUNTS 9", x.person(5, 3), 9);
        C.due("LEFT 0", x.person(0, 4), 0);
        C.due("LEFT 30", x.person(1, 4), 30);
        int[] unknown = {-1, 6, 7, LOW, HIGH};
        for (int person : unknown) {
            C.due("person(" + person + ", 0)", x.person(person, 0), UNKNOWN);
            C.due("UNKNOWN ahead of OUTSIDE: " + person, x.person(person, 5), UNKNOWN);
        }
        int[] outside = {-1, 5, 6, LOW, HIGH};
        for (int what : outside) {
            C.due("person(5, " + what + ")", x.person(5, what), OUTSIDE);
        }
        C.due("nobody is there", new RaisedArms().person(0, 5), UNKNOWN);
        C.due("one more than there are", Checks.hall("plain 1 1;plain 1 1").person(2, 0), UNKNOWN);
    }

    // Promise 7
    private static void worthAtItsBounds() {
        RaisedArms x = full();
        C.due("WORTH 9 and 100", x.worth(4, 4), 109);
        C.due("WORTH -9 and 100", x.worth(3, 0), 91);
        C.due("WORTH 0 and 100", x.worth(0, 0), 100);
        C.due("the last of both", x.worth(5, 4), 100);
        int[] odd = {-1, 6, LOW, HIGH};
        for (int number : odd) {
            C.due("no such one: " + number, x.worth(number, 0), UNKNOWN);
            C.due("no such MATTER: " + number, x.worth(0, number), UNKNOWN);
        }
        C.due("MATTER 5", x.worth(0, 5), UNKNOWN);
        C.due("one is there, no MATTER", Checks.hall("plain 1 1").worth(0, 0), UNKNOWN);
        C.due("a MATTER, nobody is there", Checks.hall("matter 1").worth(0, 0), UNKNOWN);
    }

    // One WANTS to hold .. but no more than is LEFT.
    private static void wantsAtTheirBounds() {
        RaisedArms x = Checks.hall("plain 11 0;plain 12 0;plain 13 0;watch 11 0;watch 12 0;watch 13 0;matter 5;hold 3",
                "for 0 0 4;against 1 0 4;for 2 0 4;for 3 0 4;against 4 0 4;for 5 0 4");
        int[] due = {11, 12, 12, 11, 12, 12};
        for (int person = 0; person < 6; person++) {
            C.due("HOLD times WORTH is 12, LEFT about: " + person, x.as(person, 0, 0), due[person]);
        }
        RaisedArms most = Checks.hall("plain 30 0;plain 0 9;stout 0 9;stout 30 0;told 30 0;told 0 9;matter 5;hold 9",
                "for 0 0 9;for 1 0 9;for 2 0 9;against 3 0 1;for 4 0 9;for 5 0 9");
        C.due("81 of 30 LEFT", most.as(0, 1, 0), 30);
        C.due("81 of 0 LEFT", most.as(1, 1, 0), 0);
        C.due("STOUT with 0 LEFT", most.as(2, 3, 0), 0);
        C.due("STOUT with 30 LEFT, WORTH 1", most.as(3, 3, 0), 30);
        C.due("TOLD nothing", most.as(4, 4, 0), 0);
        most.tell(4, 0, 99);
        most.tell(5, 0, 99);
        C.due("TOLD 99 of 30 LEFT", most.as(4, 4, 0), 30);
        C.due("TOLD 99 of 0 LEFT", most.as(5, 4, 0), 0);
        most.tell(4, 0, 30);
        C.due("TOLD 30 of 30 LEFT", most.as(4, 4, 0), 30);
        most.tell(4, 0, 29);
        C.due("TOLD 29 of 30 LEFT", most.as(4, 4, 0), 29);
        RaisedArms least = Checks.hall("plain 30 0;matter 5;hold 1;for 0 0 1");
        C.due("HOLD 1, WORTH 1", least.as(0, 1, 0), 1);
        least.vote();
        C.due("of a MATTER that was put, by what is LEFT now", least.as(0, 1, 0), 1);
    }

    // 0: neither (TOLD ones, too).
    private static void wantsOfNeither() {
        RaisedArms x = Checks.hall("plain 9 0;watch 9 0;stout 9 0;told 9 0;matter 1");
        x.tell(3, 0, 9);
        for (int person = 0; person < 4; person++) {
            C.due("neither WANTS to hold: " + person, x.as(person, 0, 0), 0);
        }
        x.vote();
        for (int person = 0; person < 4; person++) {
            C.due("neither holds: " + person, x.held(person, 0), 0);
            C.due("neither tires: " + person, x.person(person, 4), 9);
        }
        C.due("nothing FOR", x.result(0, 0), 0);
        C.due("nothing AGAINST", x.result(0, 1), 0);
    }

    // KINDS are over one another; promise 8.
    private static void kindsOverOneAnother() {
        RaisedArms x = Checks.hall("plain 9 0;watch 9 0;stout 9 0;told 9 0;matter 5;for 0 0 1;for 1 0 1;for 2 0 1;for 3 0 1");
        x.tell(3, 0, 5);
        int[][] due = {{2, 2, NOT, NOT, NOT}, {2, 2, 2, NOT, NOT}, {9, NOT, NOT, 9, NOT}, {5, NOT, NOT, NOT, 5}};
        for (int person = 0; person < 4; person++) {
            for (int kind = 0; kind < 5; kind++) {
                C.due("as(" + person + ", " + kind + ", 0)", x.as(person, kind, 0), due[person][kind]);
            }
            for (int kind : new int[] {-1, 5, LOW, HIGH}) {
                C.due("as(" + person + ", " + kind + ", 0)", x.as(person, kind, 0), OUTSIDE);
            }
        }
        for (int unknown : new int[] {-1, 4, LOW, HIGH}) {
            C.due("no such one: " + unknown, x.as(unknown, 0, 0), UNKNOWN);
            C.due("no such one, ahead of OUTSIDE: " + unknown, x.as(unknown, 5, 0), UNKNOWN);
            C.due("no such MATTER: " + unknown, x.as(0, 0, unknown), UNKNOWN);
            C.due("no such MATTER, ahead of OUTSIDE: " + unknown, x.as(0, -1, unknown), UNKNOWN);
            C.due("no such MATTER, ahead of NOT: " + unknown, x.as(0, 4, unknown), UNKNOWN);
        }
        C.due("MATTER 1", x.as(0, 0, 1), UNKNOWN);
    }

    // Promise 9: so many seconds (0 .. 99).
    private static void tellAtItsBounds() {
        RaisedArms x = Checks.hall("plain 9 0;watch 9 0;stout 9 0;told 9 0;told 9 0;matter 5;matter 5;for 3 0 1");
        C.due("0 at first", x.tell(3, 0, 99), 0);
        C.due("99 seconds", x.tell(3, 0, 0), 99);
        C.due("0 seconds", x.tell(3, 0, 7), 0);
        for (int seconds : new int[] {-1, 100, LOW, HIGH}) {
            C.due("tell " + seconds, x.tell(3, 0, seconds), OUTSIDE);
            C.due("OUTSIDE ahead of NOT: " + seconds, x.tell(0, 0, seconds), OUTSIDE);
            C.due("UNKNOWN ahead of OUTSIDE: " + seconds, x.tell(5, 0, seconds), UNKNOWN);
        }
        C.due("nothing changed", x.tell(3, 0, 7), 7);
        C.due("another MATTER", x.tell(3, 1, 1), 0);
        C.due("another TOLD one", x.tell(4, 0, 1), 0);
        C.due("the first still", x.tell(3, 0, 7), 7);
        for (int person = 0; person < 3; person++) {
            C.due("not TOLD: " + person, x.tell(person, 0, 1), NOT);
            C.due("UNKNOWN ahead of NOT: " + person, x.tell(person, 2, 1), UNKNOWN);
        }
        C.due("no such MATTER", x.tell(3, 2, 1), UNKNOWN);
        C.due("MATTER -1", x.tell(3, -1, 1), UNKNOWN);
        C.due("no such one", x.tell(-1, 0, 1), UNKNOWN);
    }

    // Promise 10: NONE: there are not so many; OUTSIDE: i below 0.
    private static void orderAtItsBounds() {
        RaisedArms x = full();
        for (int i = 0; i < 5; i++) {
            C.due("by numbers: " + i, x.order(i), i);
        }
        for (int i : new int[] {5, 6, HIGH}) {
            C.due("not so many: " + i, x.order(i), NONE);
        }
        for (int i : new int[] {-1, -2, LOW}) {
            C.due("below 0: " + i, x.order(i), OUTSIDE);
        }
        RaisedArms none = new RaisedArms();
        C.due("no MATTERS: 0", none.order(0), NONE);
        C.due("no MATTERS: -1", none.order(-1), OUTSIDE);
        x.vote();
        C.due("what was put stands in ORDER", x.order(0), 0);
        C.due("what comes next is behind it", x.order(1), 1);
    }

    // Promise 11: those between come behind it: how many come.
    private static void nextAtItsBounds() {
        RaisedArms x = full();
        C.due("the last", x.next(4), 5);
        dueOrder(x, 4, 0, 1, 2, 3);
        C.due("the one that is next", x.next(4), 5);
        dueOrder(x, 4, 0, 1, 2, 3);
        C.due("the second", x.next(0), 5);
        dueOrder(x, 0, 4, 1, 2, 3);
        for (int unknown : new int[] {-1, 5, LOW, HIGH}) {
            C.due("no such MATTER: " + unknown, x.next(unknown), UNKNOWN);
        }
        x.vote();
        C.due("it was put", x.next(0), NOT);
        C.due("four come", x.next(3), 4);
        dueOrder(x, 0, 3, 4, 1, 2);
        x.vote();
        x.vote();
        x.vote();
        C.due("the only one", x.next(2), 1);
        x.vote();
        for (int matter = 0; matter < 5; matter++) {
            C.due("all were put: " + matter, x.next(matter), NOT);
        }
        dueOrder(x, 0, 3, 4, 1, 2);
        C.due("no MATTERS", new RaisedArms().next(0), UNKNOWN);
    }

    private static void dueOrder(RaisedArms x, int... due) {
        for (int i = 0; i < due.length; i++) {
            C.due("order(" + i + ")", x.order(i), due[i]);
        }
    }

    // Promise 12: NOT: none is to come.
    private static void voteOfNone() {
        C.due("no MATTERS", new RaisedArms().vote(), NOT);
        C.due("people, no MATTERS", Checks.hall("stout 9 9").vote(), NOT);
        RaisedArms x = full();
        for (int i = 0; i < 5; i++) {
            C.isTrue("a vote of five", x.vote() >= 0);
            C.due("put so far", x.count(3), i + 1);
        }
        C.due("all were put", x.vote(), NOT);
        C.due("all were put, still", x.vote(), NOT);
        C.due("five were put", x.count(3), 5);
    }

    // CARRIED: 10 times FOR is above NEED times FOR and AGAINST together.
    private static void carriedJustAboveNeed() {
        for (int need = 1; need <= 9; need++) {
            dueVote("just the NEED", need, need, 10 - need, 0);
            dueVote("a second FOR more", need, need + 1, 10 - need, 1);
            dueVote("a second AGAINST less", need, need, 9 - need, 1);
            dueVote("a second AGAINST more", need, need, 11 - need, 0);
            dueVote("one second FOR alone", need, 1, 0, 1);
            dueVote("one second AGAINST alone", need, 0, 1, 0);
            dueVote("no second", need, 0, 0, 0);
        }
    }

    private static void dueVote(String what, int need, int forIt, int against, int due) {
        RaisedArms x = Checks.hall("told 30 0;told 30 0;matter " + need + ";for 0 0 1;against 1 0 9");
        x.tell(0, 0, forIt);
        x.tell(1, 0, against);
        String call = what + ", NEED " + need + ", " + forIt + " to " + against;
        C.due(call + ", foretold", x.carries(), due);
        C.due(call, x.vote(), due);
        C.due(call + ", FOR", x.result(0, 0), forIt);
        C.due(call + ", AGAINST", x.result(0, 1), against);
        C.due(call + ", result", x.result(0, 2), due);
        C.due(call + ", seconds", x.result(0, 3), Math.max(forIt, against));
    }

    private static void carriedByNobody() {
        RaisedArms x = Checks.hall("matter 1;matter 9");
        C.due("nobody is there", x.vote(), 0);
        C.due("no second", x.result(0, 3), 0);
        RaisedArms tired = Checks.hall("stout 0 9;matter 1;for 0 0 9");
        C.due("an arm of 0", tired.vote(), 0);
        C.due("it is never up", tired.result(0, 3), 0);
        C.due("REST, ARM at most", tired.person(0, 4), 0);
    }

    private static void greatestSums() {
        RaisedArms x = Checks.hall("stout 30 0;stout 30 0;stout 30 0;stout 30 0;stout 30 0;stout 30 0;matter 9;matter 9",
                "for 0 0 1;for 1 0 1;for 2 0 1;for 3 0 1;for 4 0 1;for 5 0 1",
                "counts 0 9;counts 1 9;counts 2 9;counts 3 9;counts 4 9;counts 5 9");
        C.due("all FOR", x.vote(), 1);
        C.due("six arms of 30 that count 9", x.result(0, 0), 1620);
        C.due("30 seconds", x.result(0, 3), 30);
        C.due("nothing is LEFT", x.person(5, 4), 0);
    }

    // An arm is up till it has been so as long as one WANTS (0: not at all); it ends with the first second in which no arm is up.
    private static void armsAreUpAsLongAsWanted() {
        RaisedArms x = Checks.hall("told 9 0;told 9 0;told 9 0;plain 9 0;matter 5;for 0 0 1;against 1 0 1;for 2 0 1;against 3 0 1;hold 3");
        x.tell(0, 0, 0);
        x.tell(1, 0, 1);
        x.tell(2, 0, 9);
        x.vote();
        int[] due = {0, 1, 9, 3};
        for (int person = 0; person < 4; person++) {
            C.due("held by " + person, x.held(person, 0), due[person]);
        }
        C.due("FOR", x.result(0, 0), 9);
        C.due("AGAINST", x.result(0, 1), 4);
        C.due("some arm was up for", x.result(0, 3), 9);
    }

    // Behind it each has LEFT less by what was held, then REST more, ARM at most.
    private static void leftAndRestAtTheirBounds() {
        for (int held = 0; held <= 10; held++) {
            RaisedArms x = Checks.hall("told 10 4;matter 5;matter 5;for 0 0 1;for 0 1 1");
            x.tell(0, 0, held);
            x.vote();
            C.due("ARM 10, REST 4, held " + held, x.person(0, 4), Math.min(10, 14 - held));
        }
        RaisedArms most = Checks.hall("stout 30 9;stout 9 9;stout 10 9;stout 5 0;matter 5;matter 5;matter 5",
                "for 0 0 1;for 1 0 1;for 2 0 1;for 3 0 1");
        most.vote();
        C.due("30 held, 9 REST", most.person(0, 4), 9);
        C.due("9 held, 9 REST: ARM just so", most.person(1, 4), 9);
        C.due("10 held, 9 REST: one less than ARM", most.person(2, 4), 9);
        C.due("5 held, no REST", most.person(3, 4), 0);
        most.vote();
        C.due("18 of 30", most.person(0, 4), 18);
        C.due("ARM at most", most.person(1, 4), 9);
        C.due("ARM at most by REST", most.person(2, 4), 10);
        C.due("no REST", most.person(3, 4), 0);
    }

    // A WATCH one lowers it ahead of a second, if the VOTE is SETTLED then (in the first one: who WANT to hold).
    private static void watchLowersAheadOfTheFirst() {
        RaisedArms against = Checks.hall("watch 9 0;matter 5;against 0 0 9");
        against.vote();
        C.due("AGAINST alone: it cannot be carried", against.held(0, 0), 0);
        C.due("no second", against.result(0, 3), 0);
        RaisedArms alone = Checks.hall("watch 9 0;matter 5;for 0 0 9");
        C.due("FOR alone", alone.vote(), 1);
        C.due("one second is enough", alone.held(0, 0), 1);
        // FOR 3 of 3 could hold; AGAINST wants 27 of 30, but that is not sure: both arms go up.
        RaisedArms few = Checks.hall("watch 3 0;plain 30 0;matter 9;for 0 0 9;against 1 0 9");
        C.due("not settled ahead of the first", few.settles(), 2);
        few.vote();
        C.due("3 FOR, 1 AGAINST are no 9 tenths", few.held(0, 0), 1);
        C.due("PLAIN holds on", few.held(1, 0), 18);
        // Who is FOR, but does not WANT to hold, is not thought of.
        RaisedArms told = Checks.hall("watch 9 0;told 30 0;matter 5;against 0 0 9;for 1 0 9");
        told.vote();
        C.due("who WANTS 0 is none of these", told.held(0, 0), 0);
        told = Checks.hall("watch 9 0;told 30 0;matter 5;against 0 0 9;for 1 0 9");
        told.tell(1, 0, 1);
        told.vote();
        // Ahead of 2 the arm FOR was up, and 29 are LEFT; ahead of 3 it was not.
        C.due("who WANTS 1 could hold all that is LEFT", told.held(0, 0), 2);
    }

    private static void watchLowersWhenSettled() {
        // 9 FOR against 5: ahead of second 6 it stands 5 to 5, ahead of 7 it is 6 to 5 and settled.
        RaisedArms x = Checks.hall("watch 9 3;stout 5 0;matter 5;for 0 0 9;against 1 0 1");
        C.due("settles", x.settles(), 7);
        C.due("carried", x.vote(), 1);
        C.due("held to that", x.held(0, 0), 6);
        C.due("seconds", x.result(0, 3), 6);
        C.due("the arm rests", x.person(0, 4), 6);
        // AGAINST lowers as well: FOR has 4, and it stands 4 AGAINST ahead of 5.
        RaisedArms y = Checks.hall("stout 4 0;watch 9 0;matter 5;for 0 0 1;against 1 0 9");
        C.due("settles by AGAINST", y.settles(), 5);
        C.due("not carried", y.vote(), 0);
        C.due("AGAINST held to that", y.held(1, 0), 4);
        // A watching one that WANTS less than it takes is down before.
        RaisedArms z = Checks.hall("watch 9 0;stout 5 0;matter 5;for 0 0 2;against 1 0 1;hold 1");
        z.vote();
        C.due("as long as one WANTS", z.held(0, 0), 2);
    }

    // All AGAINST whose arm was up in the second ahead held all that is LEFT of theirs now.
    private static void settledByWhoseArmWasUp() {
        // AGAINST wants 2 of 30: up in seconds 1 and 2, so that ahead of 3 it could still hold 28 more; ahead of 4 no more.
        RaisedArms x = Checks.hall("watch 20 0;plain 30 0;matter 5;for 0 0 9;against 1 0 2;hold 1");
        // WATCH wants 9; ahead of 4 it is 3 to 2.
        C.due("ahead of 4", x.settles(), 4);
        x.vote();
        C.due("held 3", x.held(0, 0), 3);
        // What is LEFT now, less by what was held: 5 of 5 were held ahead of 6, none is LEFT.
        RaisedArms y = Checks.hall("plain 6 0;plain 5 0;matter 5;for 0 0 9;against 1 0 9");
        C.due("nothing LEFT of AGAINST: 6 to 5 ahead of 7", y.settles(), 7);
        // FOR counts 3 a second: ahead of 2 it is 3 to 1, and 9 could be; ahead of 4 9 to 9; ahead of 5 12 to 9.
        RaisedArms v = Checks.hall("watch 9 0;plain 9 0;matter 5;for 0 0 9;against 1 0 9;counts 0 3");
        C.due("all that is LEFT of AGAINST: ahead of 5", v.settles(), 5);
        v.vote();
        C.due("held 4", v.held(0, 0), 4);
        // AGAINST counts 3 a second: ahead of 4 there are 9 of it, and 9 is the most FOR; 10 are one above.
        RaisedArms z = Checks.hall("plain 9 0;plain 3 0;matter 5;for 0 0 9;against 1 0 9;counts 1 3");
        C.due("9 to 9 at most", z.settles(), 4);
        RaisedArms w = Checks.hall("plain 10 0;plain 3 0;matter 5;for 0 0 9;against 1 0 9;counts 1 3");
        C.due("10 to 9 ahead of 11", w.settles(), 11);
    }

    // Or it would not be also if those FOR did so, and nobody AGAINST.
    private static void settledAgainstAtItsBound() {
        // FOR 5 of 5; AGAINST 5: it stands 5 to 5 at the best ahead of 6.
        RaisedArms x = Checks.hall("plain 5 0;plain 9 0;matter 5;for 0 0 9;against 1 0 9");
        C.due("just the NEED is not above", x.settles(), 6);
        // FOR 6: ahead of 6 it could be 6 to 5 still, ahead of 7 6 to 6.
        RaisedArms y = Checks.hall("plain 6 0;plain 9 0;matter 5;for 0 0 9;against 1 0 9");
        C.due("one above is not settled", y.settles(), 7);
        // FOR lowered at 1 of 9: ahead of 2 it might hold 8 more, ahead of 3 no more.
        RaisedArms z = Checks.hall("told 9 0;told 30 0;matter 5;for 0 0 9;against 1 0 9");
        z.tell(0, 0, 1);
        z.tell(1, 0, 9);
        C.due("ahead of 3: 1 to 2", z.settles(), 3);
    }

    // Promise 13: of a MATTER that was put.
    private static void resultAtItsBounds() {
        RaisedArms x = Checks.hall("stout 7 0;stout 4 0;matter 5;matter 5;for 0 1 1;against 1 1 1;counts 1 2");
        for (int matter = 0; matter < 2; matter++) {
            for (int what = 0; what < 4; what++) {
                C.due("it was not put", x.result(matter, what), NOT);
            }
            for (int what : new int[] {-1, 4, LOW, HIGH}) {
                C.due("OUTSIDE ahead of NOT: " + what, x.result(matter, what), OUTSIDE);
            }
        }
        x.next(1);
        x.vote();
        int[] due = {7, 8, 0, 7};
        for (int what = 0; what < 4; what++) {
            C.due("result(1, " + what + ")", x.result(1, what), due[what]);
            C.due("the other was not put", x.result(0, what), NOT);
        }
        for (int matter : new int[] {-1, 2, LOW, HIGH}) {
            C.due("no such MATTER: " + matter, x.result(matter, 0), UNKNOWN);
            C.due("UNKNOWN ahead of OUTSIDE: " + matter, x.result(matter, 4), UNKNOWN);
        }
        for (int what : new int[] {-1, 4, LOW, HIGH}) {
            C.due("OUTSIDE: " + what, x.result(1, what), OUTSIDE);
        }
        x.vote();
        C.due("the result stays", x.result(1, 1), 8);
        for (int what = 0; what < 4; what++) {
            C.due("no arm was up: result(0, " + what + ")", x.result(0, what), 0);
        }
    }

    // Promise 14
    private static void heldAtItsBounds() {
        RaisedArms x = Checks.hall("stout 30 0;stout 0 9;plain 9 0;matter 5;matter 5;for 0 1 1;against 1 1 1");
        C.due("it was not put", x.held(0, 1), NOT);
        x.next(1);
        x.vote();
        C.due("30 seconds", x.held(0, 1), 30);
        C.due("0 LEFT", x.held(1, 1), 0);
        C.due("neither", x.held(2, 1), 0);
        for (int person = 0; person < 3; person++) {
            C.due("the other was not put", x.held(person, 0), NOT);
        }
        for (int odd : new int[] {-1, 3, LOW, HIGH}) {
            C.due("no such one: " + odd, x.held(odd, 1), UNKNOWN);
            C.due("no such one, ahead of NOT: " + odd, x.held(odd, 0), UNKNOWN);
            C.due("no such MATTER: " + odd, x.held(0, odd), UNKNOWN);
        }
        C.due("MATTER 2", x.held(0, 2), UNKNOWN);
    }

    // Promise 15: UNKNOWN: no such k.
    private static void keepAtItsBounds() {
        RaisedArms x = full();
        for (int k : new int[] {-1, 2, LOW, HIGH}) {
            C.due("keep " + k, x.keep(k), UNKNOWN);
        }
        C.due("no keeping was done: 0", x.back(0), NOT);
        C.due("no keeping was done: 1", x.back(1), NOT);
        C.due("keep ahead of all", x.keep(0), 0);
        for (int i = 0; i < 5; i++) {
            x.vote();
        }
        C.due("keep behind all", x.keep(1), 5);
        C.due("keep in a hall of nobody", new RaisedArms().keep(1), 0);
    }

    // Promise 16: UNKNOWN; NOT: nothing was kept since the last text.
    private static void backAtItsBounds() {
        RaisedArms x = full();
        for (int k : new int[] {-1, 2, LOW, HIGH}) {
            C.due("back " + k, x.back(k), UNKNOWN);
        }
        x.keep(1);
        C.due("0 was not kept", x.back(0), NOT);
        x.vote();
        C.due("1 was", x.back(1), 0);
        C.due("it stays kept", x.back(1), 0);
        Checks.write(x, "hold 0");
        C.due("a text with a FAULT", x.hall(), NOT);
        C.due("it is no text behind it", x.back(1), 0);
        x.erase();
        C.due("nor is erasing", x.back(1), 0);
        Checks.write(x, "hold 9");
        C.due("nor is writing", x.back(1), 0);
        x.hall();
        C.due("a text: nothing is kept", x.back(1), NOT);
        x.keep(0);
        C.due("kept since", x.back(0), 0);
        C.due("the other was not kept since", x.back(1), NOT);
    }

    // ORDER, results, what is LEFT, what TOLD ones hold.
    private static void whatIsKept() {
        RaisedArms x = Checks.hall("told 9 1;stout 8 0;matter 5;matter 5;matter 5;for 0 0 1;for 0 1 1;against 1 2 2;for 1 0 1");
        x.tell(0, 0, 4);
        x.next(2);
        x.keep(0);
        x.vote();
        C.due("put", x.keep(1), 1);
        x.vote();
        x.vote();
        x.tell(0, 0, 9);
        C.due("4 held, twice rested", x.person(0, 4), 7);
        C.due("back to the first", x.back(0), 0);
        dueOrder(x, 2, 0, 1);
        C.due("results are gone", x.result(2, 1), NOT);
        C.due("LEFT", x.person(1, 4), 8);
        C.due("what TOLD ones hold", x.tell(0, 0, 5), 4);
        x.next(1);
        x.vote();
        C.due("what is kept stays as it was", x.back(0), 0);
        dueOrder(x, 2, 0, 1);
        C.due("told as it was kept", x.tell(0, 0, 4), 4);
        C.due("forth to the other", x.back(1), 1);
        C.due("its result", x.result(2, 1), 8);
        C.due("its LEFT", x.person(1, 4), 0);
        C.due("what was held", x.held(1, 2), 8);
        x.vote();
        C.due("kept anew over the first", x.keep(0), 2);
        C.due("the other is as it was", x.back(1), 1);
        C.due("the first is as it was kept last", x.back(0), 2);
        C.due("a result of it", x.result(0, 0), 4);
        x.back(1);
        x.tell(0, 0, 7);
        x.vote();
        C.due("another result", x.result(0, 0), 7);
        x.back(0);
        C.due("the result that was kept", x.result(0, 0), 4);
        C.due("what was held then", x.held(0, 0), 4);
    }
}
