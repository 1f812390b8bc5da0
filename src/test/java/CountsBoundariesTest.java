import java.util.function.ToIntFunction;

/** The boundary cases of promises 26 to 30; and of every call that is refused: nothing changes, the first of these that fits. */
public final class CountsBoundariesTest {
    private static final int NONE = RaisedArms.NONE, UNKNOWN = RaisedArms.UNKNOWN, OUTSIDE = RaisedArms.OUTSIDE;
    private static final int NOT = RaisedArms.NOT, FULL = RaisedArms.FULL;
    private static final int LOW = Integer.MIN_VALUE, HIGH = Integer.MAX_VALUE;
    private static final Checks C = new Checks();

    public static void main(String[] args) {
        rowRefused();
        eightRowsAtMost();
        forgetNoneAndAll();
        judgedJustAboveNeed();
        judgedTheFirst();
        rowsOfAnyMatter();
        armsRefused();
        armsAtTheirBounds();
        armsWereHePlain();
        countRefused();
        countsAtTheirMost();
        refusedUnknown();
        refusedOutside();
        refusedNot();
        refusedFull();
        C.end("CountsBoundariesTest");
    }

    // Promise 26: a MATTER, FOR, AGAINST (0 .. 999), 1 CARRIED, 0. UNKNOWN; OUTSIDE; FULL.
    private static void rowRefused() {
        RaisedArms x = Checks.hall("matter 5;matter 9");
        for (int matter : new int[] {-1, 2, LOW, HIGH}) {
            C.due("no such MATTER: " + matter, x.row(matter, 0, 0, 0), UNKNOWN);
            C.due("UNKNOWN ahead of OUTSIDE: " + matter, x.row(matter, -1, 1000, 2), UNKNOWN);
        }
        for (int sum : new int[] {-1, 1000, LOW, HIGH}) {
            C.due("FOR " + sum, x.row(0, sum, 0, 0), OUTSIDE);
            C.due("AGAINST " + sum, x.row(1, 0, sum, 1), OUTSIDE);
        }
        for (int carried : new int[] {-1, 2, LOW, HIGH}) {
            C.due("carried " + carried, x.row(0, 0, 0, carried), OUTSIDE);
        }
        C.due("no row was told", x.count(4), 0);
        C.due("FOR 0, AGAINST 0, carried 0", x.row(0, 0, 0, 0), 1);
        C.due("FOR 999, AGAINST 999, carried 1", x.row(1, 999, 999, 1), 2);
        C.due("no MATTERS", new RaisedArms().row(0, 0, 0, 0), UNKNOWN);
    }

    // COUNTS told, 8 at most.
    private static void eightRowsAtMost() {
        RaisedArms x = eightRows();
        C.due("a ninth", x.row(0, 0, 0, 0), FULL);
        C.due("OUTSIDE ahead of FULL", x.row(0, 1000, 0, 0), OUTSIDE);
        C.due("UNKNOWN ahead of FULL", x.row(1, 0, 0, 0), UNKNOWN);
        C.due("eight are told", x.count(4), 8);
        C.due("forget eight", x.forget(), 8);
        C.due("the first of new ones", x.row(0, 0, 0, 0), 1);
        RaisedArms y = eightRows();
        Checks.write(y, "hold 2");
        y.hall();
        C.due("none behind a text", y.row(0, 0, 0, 0), 1);
    }

    private static RaisedArms eightRows() {
        RaisedArms x = Checks.hall("matter 5");
        for (int i = 1; i <= 8; i++) {
            C.due("row " + i, x.row(0, 5, 5, 0), i);
        }
        return x;
    }

    // Promise 27: no COUNTS are told: how many there were.
    private static void forgetNoneAndAll() {
        RaisedArms x = new RaisedArms();
        C.due("none at first", x.forget(), 0);
        RaisedArms y = Checks.hall("matter 5");
        y.row(0, 0, 9, 1);
        C.due("one", y.forget(), 1);
        C.due("none is left", y.forget(), 0);
        C.due("none is wrong", y.judge(), NONE);
        C.due("none is counted", y.count(4), 0);
    }

    // CARRIED: 10 times FOR is above NEED times FOR and AGAINST together.
    private static void judgedJustAboveNeed() {
        for (int need = 1; need <= 9; need++) {
            RaisedArms x = Checks.hall("matter " + need);
            dueJudged(x, "just the NEED", 10 * need, 10 * (10 - need), 0);
            dueJudged(x, "one FOR more", 10 * need + 1, 10 * (10 - need), 1);
            dueJudged(x, "one AGAINST less", 10 * need, 10 * (10 - need) - 1, 1);
            dueJudged(x, "one AGAINST more", 10 * need, 10 * (10 - need) + 1, 0);
            dueJudged(x, "none at all", 0, 0, 0);
            dueJudged(x, "one FOR alone", 1, 0, 1);
            dueJudged(x, "one AGAINST alone", 0, 1, 0);
            dueJudged(x, "all FOR that can be told", 999, 0, 1);
            dueJudged(x, "all of both", 999, 999, need < 5 ? 1 : 0);
        }
    }

    private static void dueJudged(RaisedArms x, String what, int forIt, int against, int carried) {
        x.forget();
        x.row(0, forIt, against, carried);
        C.due(what + ": right", x.judge(), NONE);
        x.forget();
        x.row(0, forIt, against, 1 - carried);
        C.due(what + ": wrong", x.judge(), 0);
    }

    // Promise 28: which (from 0); NONE: all are right.
    private static void judgedTheFirst() {
        C.due("none is told", new RaisedArms().judge(), NONE);
        for (int wrong = 0; wrong < 8; wrong++) {
            RaisedArms x = Checks.hall("matter 5");
            for (int i = 0; i < 8; i++) {
                x.row(0, i, 0, i == 0 ? wrong == 0 ? 1 : 0 : i < wrong ? 1 : 0);
            }
            C.due("the first wrong one, others behind it", x.judge(), wrong);
        }
        RaisedArms right = eightRows();
        C.due("all eight are right", right.judge(), NONE);
    }

    // A MATTER is judged by its own NEED, whether it was put or not, and whatever came of it.
    private static void rowsOfAnyMatter() {
        RaisedArms x = Checks.hall("stout 9 0;matter 1;matter 9;for 0 0 1");
        x.vote();
        C.due("of one that was put", x.row(0, 2, 9, 1), 1);
        C.due("of one that comes", x.row(1, 2, 9, 0), 2);
        C.due("each by its NEED", x.judge(), NONE);
        C.due("not what came of it", x.row(0, 0, 9, 0), 3);
        C.due("right", x.judge(), NONE);
        x.keep(0);
        x.row(1, 0, 0, 1);
        x.back(0);
        C.due("told ones are no part of what is kept", x.judge(), 3);
    }

    // Promise 29: UNKNOWN; OUTSIDE: s (0 .. 30).
    private static void armsRefused() {
        RaisedArms x = Checks.hall("plain 30 0;stout 0 0;hold 9");
        for (int person : new int[] {-1, 2, LOW, HIGH}) {
            C.due("no such one: " + person, x.arms(person, 0), UNKNOWN);
            C.due("UNKNOWN ahead of OUTSIDE: " + person, x.arms(person, 31), UNKNOWN);
        }
        for (int s : new int[] {-1, 31, LOW, HIGH}) {
            C.due("s " + s, x.arms(0, s), OUTSIDE);
        }
        C.due("nobody is there", new RaisedArms().arms(0, 31), UNKNOWN);
    }

    // WORTH (0 .. 9, by bits, without sign) by which one .. would hold just s seconds now.
    private static void armsAtTheirBounds() {
        RaisedArms x = Checks.hall("plain 30 0;stout 0 0;watch 27 0;told 28 0;plain 9 0;plain 8 0;hold 9");
        C.due("s 0: WORTH 0 alone", x.arms(0, 0), 1);
        C.due("s 30, all that is LEFT: WORTH 4 .. 9", x.arms(0, 30), 1008);
        C.due("s 27: WORTH 3", x.arms(0, 27), 8);
        C.due("s 29: none", x.arms(0, 29), 0);
        C.due("0 LEFT: any WORTH", x.arms(1, 0), 1023);
        C.due("0 LEFT: s 1", x.arms(1, 1), 0);
        C.due("27 LEFT: WORTH 3 .. 9", x.arms(2, 27), 1016);
        C.due("27 LEFT: s 30", x.arms(2, 30), 0);
        C.due("28 LEFT: WORTH 3", x.arms(3, 27), 8);
        C.due("28 LEFT: WORTH 4 .. 9", x.arms(3, 28), 1008);
        C.due("9 LEFT: WORTH 1 .. 9", x.arms(4, 9), 1022);
        C.due("8 LEFT: WORTH 1 .. 9", x.arms(5, 8), 1022);
        RaisedArms one = Checks.hall("plain 30 0;hold 1");
        for (int s = 0; s <= 30; s++) {
            C.due("HOLD 1, s " + s, one.arms(0, s), s <= 9 ? 1 << s : 0);
        }
    }

    // Were he PLAIN; now.
    private static void armsWereHePlain() {
        RaisedArms x = Checks.hall("stout 9 2;told 9 2;watch 9 2;matter 5;for 0 0 1;for 1 0 1;against 2 0 1");
        for (int person = 0; person < 3; person++) {
            C.due("of any kind: " + person, x.arms(person, 8), 16);
            C.due("of any kind, all that is LEFT: " + person, x.arms(person, 9), 992);
        }
        x.vote();
        C.due("2 are LEFT now", x.arms(0, 2), 1022);
        C.due("9 are LEFT still", x.arms(1, 9), 992);
    }

    // Promise 30: OUTSIDE.
    private static void countRefused() {
        RaisedArms x = new RaisedArms();
        for (int what : new int[] {-1, 6, 7, LOW, HIGH}) {
            C.due("count " + what, x.count(what), OUTSIDE);
        }
    }

    private static void countsAtTheirMost() {
        RaisedArms x = Checks.hall("plain 1 1;plain 1 1;plain 1 1;plain 1 1;plain 1 1;plain 1 1;matter 1;matter 1;matter 1;matter 1;matter 1;hold 9");
        for (int i = 0; i < 5; i++) {
            x.vote();
        }
        for (int i = 0; i < 8; i++) {
            x.row(0, 0, 0, 0);
        }
        Checks.write(x, " ".repeat(200));
        int[] due = {6, 5, 9, 5, 8, 200};
        for (int what = 0; what < 6; what++) {
            C.due("count(" + what + ")", x.count(what), due[what]);
        }
        x.back(0);
        C.due("put, behind a refused back", x.count(3), 5);
        C.due("HOLD 1", Checks.hall("hold 1").count(2), 1);
    }

    /** Two of three MATTERS were put, one evening is kept, rows are told, and a text is begun. */
    private static RaisedArms busy() {
        RaisedArms x = Checks.hall("told 9 1;plain 9 2;watch 9 3;stout 9 4;matter 5;matter 4;matter 3;counts 1 3;hold 3",
                "for 0 0 1;against 1 0 2;for 2 0 3;for 0 1 4;against 3 1 5;for 1 2 6;against 2 2 7;for 3 2 8");
        x.tell(0, 0, 4);
        x.tell(0, 1, 5);
        x.tell(0, 2, 6);
        x.next(1);
        x.vote();
        x.keep(1);
        x.vote();
        x.tell(0, 2, 7);
        x.row(1, 1, 1, 0);
        x.row(2, 9, 1, 0);
        Checks.write(x, "hold 7;oops");
        return x;
    }

    private static void refused(String what, ToIntFunction<RaisedArms> call, int due) {
        Observed.refused(C, what, CountsBoundariesTest::busy, call, due);
    }

    // UNKNOWN (no such one, MATTER): ahead of all else.
    private static void refusedUnknown() {
        for (int odd : new int[] {-1, 4, LOW, HIGH}) {
            refused("person " + odd, x -> x.person(odd, 9), UNKNOWN);
            refused("worth of one " + odd, x -> x.worth(odd, 0), UNKNOWN);
            refused("worth of a MATTER " + odd, x -> x.worth(0, odd), UNKNOWN);
            refused("as, one " + odd, x -> x.as(odd, 9, 0), UNKNOWN);
            refused("as, a MATTER " + odd, x -> x.as(0, 9, odd), UNKNOWN);
            refused("tell one " + odd, x -> x.tell(odd, 0, 100), UNKNOWN);
            refused("tell of a MATTER " + odd, x -> x.tell(0, odd, 3), UNKNOWN);
            refused("next " + odd, x -> x.next(odd), UNKNOWN);
            refused("result " + odd, x -> x.result(odd, 9), UNKNOWN);
            refused("held by " + odd, x -> x.held(odd, 0), UNKNOWN);
            refused("held of " + odd, x -> x.held(0, odd), UNKNOWN);
            refused("keep " + odd, x -> x.keep(odd), UNKNOWN);
            refused("back " + odd, x -> x.back(odd), UNKNOWN);
            refused("gain " + odd, x -> x.gain(odd), UNKNOWN);
            refused("best " + odd, x -> x.best(odd, 9, 9), UNKNOWN);
            refused("turn, one " + odd, x -> x.turn(odd, 2), UNKNOWN);
            refused("turn, a MATTER " + odd, x -> x.turn(0, odd), UNKNOWN);
            refused("bought " + odd, x -> x.bought(odd), UNKNOWN);
            refused("row " + odd, x -> x.row(odd, 1000, 0, 0), UNKNOWN);
            refused("arms " + odd, x -> x.arms(odd, 31), UNKNOWN);
        }
        refused("fair 4", x -> x.fair(4), UNKNOWN);
        refused("fair -2", x -> x.fair(-2), UNKNOWN);
    }

    // OUTSIDE (another number is not as told).
    private static void refusedOutside() {
        refused("write 0", x -> x.write(-1L, 0), OUTSIDE);
        refused("write 9", x -> x.write(-1L, 9), OUTSIDE);
        refused("person, what", x -> x.person(0, 5), OUTSIDE);
        refused("as, kind, ahead of NOT", x -> x.as(0, 5, 0), OUTSIDE);
        refused("tell 100", x -> x.tell(0, 2, 100), OUTSIDE);
        refused("tell -1", x -> x.tell(0, 2, -1), OUTSIDE);
        refused("tell, ahead of NOT", x -> x.tell(1, 2, 100), OUTSIDE);
        refused("order", x -> x.order(-1), OUTSIDE);
        refused("result, ahead of NOT", x -> x.result(2, 4), OUTSIDE);
        refused("best, k 0", x -> x.best(0, 0, 0), OUTSIDE);
        refused("best, k 4", x -> x.best(0, 4, 0), OUTSIDE);
        refused("best, i", x -> x.best(0, 1, -2), OUTSIDE);
        refused("put, a set of what was put", x -> x.put(1, 0), OUTSIDE);
        refused("put, a set of no MATTER", x -> x.put(8, 0), OUTSIDE);
        refused("put, i", x -> x.put(4, -1), OUTSIDE);
        refused("hour -1", x -> x.hour(-1), OUTSIDE);
        refused("hour 100", x -> x.hour(100), OUTSIDE);
        refused("row, FOR", x -> x.row(0, 1000, 0, 0), OUTSIDE);
        refused("row, AGAINST", x -> x.row(0, 0, -1, 0), OUTSIDE);
        refused("row, carried", x -> x.row(0, 0, 0, 2), OUTSIDE);
        refused("arms", x -> x.arms(0, 31), OUTSIDE);
        refused("count", x -> x.count(6), OUTSIDE);
    }

    // NOT (not now: as told).
    private static void refusedNot() {
        refused("hall", RaisedArms::hall, NOT);
        refused("as: he is none such", x -> x.as(0, 1, 2), NOT);
        refused("tell: PLAIN", x -> x.tell(1, 2, 9), NOT);
        refused("tell: WATCH", x -> x.tell(2, 2, 9), NOT);
        refused("tell: STOUT", x -> x.tell(3, 2, 9), NOT);
        refused("next: it was put", x -> x.next(1), NOT);
        refused("result: it was not put", x -> x.result(2, 0), NOT);
        refused("held: it was not put", x -> x.held(0, 2), NOT);
        refused("back: nothing was kept", x -> x.back(0), NOT);
        refused("turn: it was put", x -> x.turn(0, 1), NOT);
        refused("bought: it was put", x -> x.bought(0), NOT);
        Observed.refused(C, "vote: none is to come", CountsBoundariesTest::atTheEnd, RaisedArms::vote, NOT);
        Observed.refused(C, "settles: none is to come", CountsBoundariesTest::atTheEnd, RaisedArms::settles, NOT);
        Observed.refused(C, "best: none is to come", CountsBoundariesTest::atTheEnd, x -> x.best(0, 3, 0), NOT);
        Observed.refused(C, "fair: nobody is there", () -> Checks.hall("matter 5"), x -> x.fair(NONE), NOT);
    }

    private static RaisedArms atTheEnd() {
        RaisedArms x = busy();
        x.vote();
        return x;
    }

    private static void refusedFull() {
        Observed.refused(C, "write to 201", CountsBoundariesTest::full, x -> x.write(-1L, 2), FULL);
        Observed.refused(C, "write, OUTSIDE ahead of FULL", CountsBoundariesTest::full, x -> x.write(-1L, 9), OUTSIDE);
        Observed.refused(C, "a ninth row", CountsBoundariesTest::full, x -> x.row(0, 9, 0, 0), FULL);
        Observed.refused(C, "a ninth row, OUTSIDE ahead of FULL", CountsBoundariesTest::full, x -> x.row(0, 9, 0, 2), OUTSIDE);
        Observed.refused(C, "a ninth row, UNKNOWN ahead of FULL", CountsBoundariesTest::full, x -> x.row(3, 9, 0, 0), UNKNOWN);
    }

    private static RaisedArms full() {
        RaisedArms x = busy();
        Checks.write(x, " ".repeat(188));
        for (int i = 0; i < 6; i++) {
            x.row(0, 1, 0, 1);
        }
        C.due("199 bytes", x.count(5), 199);
        C.due("eight rows", x.count(4), 8);
        return x;
    }
}
