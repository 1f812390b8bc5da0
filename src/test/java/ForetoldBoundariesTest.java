/** The boundary cases of what is FORETOLD: promises 17 to 25, sentence by sentence. */
public final class ForetoldBoundariesTest {
    private static final int NONE = RaisedArms.NONE, UNKNOWN = RaisedArms.UNKNOWN, OUTSIDE = RaisedArms.OUTSIDE;
    private static final int NOT = RaisedArms.NOT;
    private static final int LOW = Integer.MIN_VALUE, HIGH = Integer.MAX_VALUE;
    private static final Checks C = new Checks();

    public static void main(String[] args) {
        carriesNoneAndAll();
        gainAtItsBounds();
        settlesAtItsBounds();
        bestRefused();
        bestOfFewerMatters();
        bestAtAllThatIsLeft();
        bestAtItsWorths();
        bestRestsBetween();
        bestAsIfTold();
        bestOthersByTheirKinds();
        bestOfSeveral();
        putRefused();
        putOfNoneAndAll();
        putFindsTheOnlyOrder();
        turnRefused();
        turnAtItsBounds();
        turnOfOthers();
        boughtRefused();
        boughtAtItsBounds();
        fairRefused();
        fairAtItsBounds();
        hourRefused();
        hourAtItsBounds();
        hourOfAllInOrder();
        fullHall();
        nothingChanges();
        C.end("ForetoldBoundariesTest");
    }

    /** All five are carried by 0, who is FOR each, and lost by 1, whose arm is of no length. */
    private static RaisedArms allCarried() {
        return Checks.hall("stout 30 9;plain 0 0;matter 9;matter 1;matter 5;matter 9;matter 9",
                "for 0 0 9;for 0 1 9;for 0 2 9;for 0 3 9;for 0 4 9;against 1 0 9;against 1 1 9;against 1 2 9;against 1 3 9;against 1 4 9");
    }

    // Promise 17
    private static void carriesNoneAndAll() {
        C.due("no MATTERS", new RaisedArms().carries(), 0);
        C.due("nobody is there", Checks.hall("matter 1;matter 1").carries(), 0);
        RaisedArms x = allCarried();
        for (int put = 0; put <= 5; put++) {
            C.due("all that come, behind " + put, x.carries(), 31 >> put << put);
            x.vote();
        }
        RaisedArms last = Checks.hall("plain 3 0;matter 5;matter 5;matter 5;matter 5;matter 5;for 0 4 1");
        C.due("the last alone", last.carries(), 16);
        last.next(4);
        C.due("bits are by numbers, not by ORDER", last.carries(), 16);
    }

    // Promise 18: GAIN, and 100. UNKNOWN.
    private static void gainAtItsBounds() {
        RaisedArms x = allCarried();
        C.due("greatest", x.gain(0), 145);
        C.due("least", x.gain(1), 55);
        for (int person : new int[] {-1, 2, LOW, HIGH}) {
            C.due("no such one: " + person, x.gain(person), UNKNOWN);
        }
        for (int i = 0; i < 5; i++) {
            x.vote();
        }
        C.due("none is to come", x.gain(0), 100);
        C.due("none is to come, no such one", x.gain(2), UNKNOWN);
        C.due("no MATTERS", Checks.hall("plain 1 1").gain(0), 100);
        C.due("nobody is there", new RaisedArms().gain(0), UNKNOWN);
    }

    // Promise 19: SETTLES; NONE. NOT: none is to come.
    private static void settlesAtItsBounds() {
        C.due("no MATTERS", new RaisedArms().settles(), NOT);
        RaisedArms nobody = Checks.hall("matter 9");
        C.due("nobody is there: ahead of the first", nobody.settles(), 1);
        nobody.vote();
        C.due("it was put", nobody.settles(), NOT);
        C.due("AGAINST alone: ahead of the first", Checks.hall("stout 30 0;matter 1;against 0 0 1").settles(), 1);
        C.due("FOR alone, one second: ahead of that with which it ends",
                Checks.hall("stout 1 0;matter 9;for 0 0 1").settles(), 2);
        C.due("30 to 30: ahead of that with which it ends",
                Checks.hall("stout 30 0;stout 30 0;matter 5;for 0 0 1;against 1 0 1").settles(), 31);
        C.due("30 to 29: likewise", Checks.hall("stout 30 0;stout 29 0;matter 5;for 0 0 1;against 1 0 1").settles(), 31);
        // Both WANT two seconds; ahead of 3 both arms were up, with 1 LEFT of each.
        C.due("1 LEFT of each: ahead of none", Checks.hall("plain 3 0;plain 3 0;matter 5;for 0 0 1;against 1 0 1").settles(), NONE);
        C.due("0 LEFT FOR it: ahead of 3", Checks.hall("plain 2 0;plain 3 0;matter 5;for 0 0 1;against 1 0 1").settles(), 3);
        C.due("0 LEFT AGAINST it is not enough: 2 to 2", Checks.hall("plain 3 0;plain 2 0;matter 5;for 0 0 1;against 1 0 1").settles(), NONE);
        RaisedArms two = Checks.hall("stout 4 0;matter 5;matter 5;for 0 0 1;against 0 1 1");
        C.due("the VOTE that comes next", two.settles(), 2);
        two.next(1);
        C.due("another comes next", two.settles(), 1);
    }

    // Promise 20: UNKNOWN; OUTSIDE: k, i below NONE; NOT: none is to come.
    private static void bestRefused() {
        RaisedArms x = allCarried();
        for (int person : new int[] {-1, 2, LOW, HIGH}) {
            C.due("no such one: " + person, x.best(person, 1, 0), UNKNOWN);
            C.due("UNKNOWN ahead of OUTSIDE: " + person, x.best(person, 0, -2), UNKNOWN);
        }
        for (int k : new int[] {0, 4, -1, LOW, HIGH}) {
            C.due("k " + k, x.best(0, k, NONE), OUTSIDE);
            C.due("k " + k + ", i far", x.best(0, k, HIGH), OUTSIDE);
        }
        for (int i : new int[] {-2, -3, LOW}) {
            C.due("i " + i, x.best(0, 3, i), OUTSIDE);
        }
        for (int i = 0; i < 5; i++) {
            x.vote();
        }
        C.due("none is to come", x.best(0, 1, NONE), NOT);
        C.due("NOT ahead of NONE", x.best(0, 3, 3), NOT);
        C.due("OUTSIDE ahead of NOT: k", x.best(0, 4, 0), OUTSIDE);
        C.due("OUTSIDE ahead of NOT: i", x.best(0, 1, -2), OUTSIDE);
        C.due("UNKNOWN ahead of NOT", x.best(2, 1, 0), UNKNOWN);
        C.due("no MATTERS", Checks.hall("plain 1 1").best(0, 1, NONE), NOT);
        C.due("nobody is there", Checks.hall("matter 1").best(0, 1, NONE), UNKNOWN);
    }

    // All that come, if there are fewer; NONE: there are not so many.
    private static void bestOfFewerMatters() {
        RaisedArms x = Checks.hall("plain 9 9;matter 5;matter 5;matter 5;matter 5;for 0 0 1;for 0 1 2;for 0 2 3;for 0 3 4");
        dueBest(x, 0, 1, 101, 1);
        dueBest(x, 0, 2, 103, 1, 1);
        dueBest(x, 0, 3, 106, 1, 1, 1);
        x.next(3);
        dueBest(x, 0, 1, 104, 1);
        x.vote();
        x.vote();
        dueBest(x, 0, 3, 105, 1, 1);
        dueBest(x, 0, 2, 105, 1, 1);
        x.vote();
        dueBest(x, 0, 3, 103, 1);
        dueBest(x, 0, 1, 103, 1);
    }

    /** WORTH (and 100) and seconds of each; behind them there are not so many. */
    private static void dueBest(RaisedArms x, int person, int k, int worth, int... seconds) {
        String call = "best(" + person + ", " + k + ", ";
        C.due(call + "NONE)", x.best(person, k, NONE), worth);
        for (int i = 0; i < seconds.length; i++) {
            C.due(call + i + ")", x.best(person, k, i), seconds[i]);
        }
        C.due(call + seconds.length + ")", x.best(person, k, seconds.length), NONE);
        C.due(call + "greatest)", x.best(person, k, HIGH), NONE);
    }

    // 0 to all that is LEFT then.
    private static void bestAtAllThatIsLeft() {
        dueBest(Checks.hall("plain 6 0;stout 5 0;matter 5;for 0 0 9;against 1 0 1"), 0, 1, 109, 6);
        dueBest(Checks.hall("plain 5 0;stout 5 0;matter 5;for 0 0 9;against 1 0 1"), 0, 1, 100, 0);
        dueBest(Checks.hall("watch 30 0;stout 29 0;matter 5;for 0 0 1;against 1 0 1"), 0, 1, 101, 30);
        dueBest(Checks.hall("stout 30 0;stout 30 0;matter 5;for 0 0 1;against 1 0 1"), 0, 1, 100, 0);
        dueBest(Checks.hall("stout 30 0;stout 30 0;matter 5;against 0 0 1;for 1 0 1"), 0, 1, 100, 30);
        dueBest(Checks.hall("stout 29 0;stout 30 0;matter 5;against 0 0 1;for 1 0 1"), 0, 1, 99, 0);
        RaisedArms none = Checks.hall("plain 0 9;stout 5 0;matter 5;matter 5;for 0 0 9;against 1 0 1;for 0 1 9");
        dueBest(none, 0, 2, 100, 0, 0);
        // One second of the two is enough for either, both cannot be had.
        RaisedArms one = Checks.hall("told 1 0;matter 5;matter 5;for 0 0 3;for 0 1 4");
        dueBest(one, 0, 2, 104, 0, 1);
    }

    private static void bestAtItsWorths() {
        dueBest(allCarried(), 0, 3, 127, 1, 1, 1);
        dueBest(allCarried(), 1, 3, 73, 0, 0, 0);
        RaisedArms late = allCarried();
        late.vote();
        late.vote();
        dueBest(late, 0, 3, 127, 1, 1, 1);
        late.vote();
        late.vote();
        dueBest(late, 0, 3, 109, 1);
        RaisedArms neither = Checks.hall("told 9 0;stout 9 9;matter 5;matter 5;matter 5;for 1 0 1;for 1 1 1;for 1 2 1");
        neither.tell(0, 0, 9);
        dueBest(neither, 0, 3, 100, 0, 0, 0);
        dueBest(neither, 1, 3, 103, 1, 1, 1);
    }

    private static void bestRestsBetween() {
        String worths = "for 0 0 1;against 1 0 1;for 0 1 1;against 1 1 1;for 0 2 1;against 1 2 1";
        String matters = ";matter 5;matter 5;matter 5;";
        dueBest(Checks.hall("plain 5 5;stout 4 4" + matters + worths), 0, 3, 103, 5, 5, 5);
        // 5, then 4 are LEFT, then 8 of 5: of three MATTERS the first and the last can be had.
        dueBest(Checks.hall("plain 5 4;stout 4 4" + matters + worths), 0, 3, 102, 5, 0, 5);
        // No REST: one of three, the last, as the first one's fewest come first.
        dueBest(Checks.hall("plain 9 0;stout 4 4" + matters + worths), 0, 3, 101, 0, 0, 5);
        dueBest(Checks.hall("plain 10 0;stout 4 4" + matters + worths), 0, 3, 102, 0, 5, 5);
    }

    // Seconds that he holds of each (as if TOLD).
    private static void bestAsIfTold() {
        RaisedArms told = Checks.hall("told 9 0;stout 2 0;matter 5;for 0 0 1;against 1 0 1");
        told.tell(0, 0, 9);
        dueBest(told, 0, 1, 101, 3);
        told.tell(0, 0, 0);
        dueBest(told, 0, 1, 101, 3);
        dueBest(Checks.hall("watch 9 0;stout 2 0;matter 5;for 0 0 1;against 1 0 1"), 0, 1, 101, 3);
        dueBest(Checks.hall("stout 9 0;stout 2 0;matter 5;for 0 0 1;against 1 0 1"), 0, 1, 101, 3);
        // HOLD times WORTH does not bind him.
        dueBest(Checks.hall("plain 9 0;stout 2 0;matter 5;for 0 0 1;against 1 0 1;hold 1"), 0, 1, 101, 3);
        // His seconds count as his do.
        dueBest(Checks.hall("plain 9 0;stout 8 0;matter 5;for 0 0 1;against 1 0 1;counts 0 4"), 0, 1, 101, 3);
    }

    // The others by their kinds.
    private static void bestOthersByTheirKinds() {
        // WATCH holds its four only as long as he holds: 5 to 4, then 1 to 0.
        dueBest(Checks.hall("plain 10 0;watch 4 0;matter 5;matter 5;for 0 0 1;against 1 0 2;for 0 1 1;against 1 1 2"), 0, 2, 102, 5, 1);
        // He is neither of the first: WATCH lowers at once and has four LEFT, PLAIN has none.
        dueBest(Checks.hall("plain 10 0;watch 4 0;matter 5;matter 5;against 1 0 2;for 0 1 1;against 1 1 2"), 0, 2, 101, 0, 5);
        dueBest(Checks.hall("plain 10 0;plain 4 0;matter 5;matter 5;against 1 0 2;for 0 1 1;against 1 1 2"), 0, 2, 101, 0, 1);
        RaisedArms told = Checks.hall("plain 10 0;told 9 0;matter 5;matter 5;for 0 0 1;against 1 0 1;for 0 1 1;against 1 1 1");
        told.tell(1, 1, 3);
        dueBest(told, 0, 2, 102, 1, 4);
    }

    // Of several the fewest seconds together, then the first (the first MATTER's fewest, ..).
    private static void bestOfSeveral() {
        String three = ";stout 3 3;matter 5;matter 5;matter 5;for 0 0 4;against 1 0 1;for 0 1 4;against 1 1 1;for 0 2 4;against 1 2 1";
        dueBest(Checks.hall("plain 4 0" + three), 0, 3, 104, 0, 0, 4);
        dueBest(Checks.hall("plain 8 0" + three), 0, 3, 108, 0, 4, 4);
        // 1 second of the first, 4 of the others: the fewest together come ahead of the first one's fewest.
        RaisedArms cheap = Checks.hall("plain 4 0;stout 3 3;matter 5;matter 5;for 0 0 4;for 0 1 4;against 1 1 1");
        dueBest(cheap, 0, 2, 104, 1, 0);
        // More WORTH comes ahead of fewer seconds.
        RaisedArms dear = Checks.hall("plain 4 0;stout 3 3;matter 5;matter 5;for 0 0 4;for 0 1 5;against 1 1 1");
        dueBest(dear, 0, 2, 105, 0, 4);
    }

    // Promise 21: OUTSIDE: the set (MATTERS that are to come), i below 0.
    private static void putRefused() {
        RaisedArms x = Checks.hall("stout 9 9;matter 5;matter 5;for 0 0 1;for 0 1 1");
        for (int set : new int[] {4, 5, 8, 16, 32, 1 << 30, -1, -4, LOW, HIGH}) {
            C.due("set " + set, x.put(set, 0), OUTSIDE);
            C.due("set " + set + ", i far", x.put(set, 9), OUTSIDE);
        }
        for (int i : new int[] {-1, -2, LOW}) {
            C.due("i " + i, x.put(0, i), OUTSIDE);
            C.due("i " + i + ", no such set", x.put(4, i), OUTSIDE);
        }
        x.vote();
        C.due("a set with what was put", x.put(1, 0), OUTSIDE);
        C.due("a set with what was put, and what comes", x.put(3, 0), OUTSIDE);
        C.due("what comes", x.put(2, 0), 1);
        x.vote();
        C.due("none is to come: set 2", x.put(2, 0), OUTSIDE);
        C.due("none is to come: set 0", x.put(0, 0), NONE);
        C.due("none is to come: i -1", x.put(0, -1), OUTSIDE);
        RaisedArms none = new RaisedArms();
        C.due("no MATTERS: set 0", none.put(0, 0), NONE);
        C.due("no MATTERS: set 1", none.put(1, 0), OUTSIDE);
        C.due("no MATTERS: i -1", none.put(0, -1), OUTSIDE);
    }

    private static void putOfNoneAndAll() {
        RaisedArms x = allCarried();
        x.next(4);
        duePut(x, 0, 0, 1, 2, 3, 4);
        duePut(x, 31, 0, 1, 2, 3, 4);
        x.vote();
        duePut(x, 15, 0, 1, 2, 3);
        RaisedArms never = Checks.hall("stout 9 9;matter 5;matter 5;matter 5;against 0 1 1;for 0 0 1");
        duePut(never, 0, 0, 1, 2);
        duePut(never, 1, 0, 1, 2);
        C.due("never CARRIED", never.put(2, 0), NONE);
        C.due("never CARRIED, the last", never.put(2, 2), NONE);
        C.due("one of two is not CARRIED", never.put(3, 0), NONE);
    }

    private static void duePut(RaisedArms x, int set, int... due) {
        for (int i = 0; i < due.length; i++) {
            C.due("put(" + set + ", " + i + ")", x.put(set, i), due[i]);
        }
        C.due("put(" + set + ", " + due.length + ")", x.put(set, due.length), NONE);
        C.due("put(" + set + ", greatest)", x.put(set, HIGH), NONE);
    }

    // The first one (by MATTERS, the first one's number least, ..); none.
    private static void putFindsTheOnlyOrder() {
        // Each arm does for one MATTER: 2 is for 0's arm alone, which leaves 1 to 1's, which leaves 0 to 2's.
        RaisedArms x = Checks.hall("stout 5 0;stout 5 0;stout 5 0;matter 5;matter 5;matter 5;for 0 2 1;for 0 1 1;for 1 1 1;for 1 0 1;for 2 0 1");
        duePut(x, 7, 2, 1, 0);
        duePut(x, 6, 2, 1, 0);
        duePut(x, 5, 0, 2, 1);
        duePut(x, 3, 0, 1, 2);
        duePut(x, 4, 0, 2, 1);
        x.vote();
        duePut(x, 4, 2, 1);
        C.due("both no more: 0 has tired the arm of 1", x.put(6, 0), NONE);
    }

    // Promise 22: UNKNOWN; NOT: the MATTER was put.
    private static void turnRefused() {
        RaisedArms x = allCarried();
        for (int odd : new int[] {-1, 5, 6, LOW, HIGH}) {
            C.due("no such one: " + odd, x.turn(odd, 0), UNKNOWN);
            C.due("no such MATTER: " + odd, x.turn(0, odd), UNKNOWN);
        }
        C.due("one more than there are", x.turn(2, 0), UNKNOWN);
        x.vote();
        C.due("it was put", x.turn(0, 0), NOT);
        C.due("UNKNOWN ahead of NOT", x.turn(2, 0), UNKNOWN);
        C.due("the last comes", x.turn(0, 4), 1);
        C.due("no MATTERS", Checks.hall("plain 1 1").turn(0, 0), UNKNOWN);
        C.due("nobody is there", Checks.hall("matter 1").turn(0, 0), UNKNOWN);
    }

    // The least COUNTS (1 .. 9); none.
    private static void turnAtItsBounds() {
        for (int against = 0; against <= 30; against++) {
            RaisedArms x = Checks.hall("told 2 0;told 30 0;matter 5;for 0 0 1;against 1 0 1;counts 0 4");
            x.tell(0, 0, 2);
            x.tell(1, 0, against);
            // Twice COUNTS is to be above.
            int due = against / 2 + 1;
            C.due("2 seconds FOR, " + against + " AGAINST", x.turn(0, 0), due <= 9 ? due : NONE);
        }
    }

    private static void turnOfOthers() {
        RaisedArms x = Checks.hall("told 9 0;told 9 0;plain 9 0;told 0 0;matter 5;for 0 0 1;against 1 0 1;for 3 0 1;counts 1 9");
        x.tell(0, 0, 3);
        x.tell(1, 0, 2);
        C.due("AGAINST counts 9, and would be beaten by counting 1", x.turn(1, 0), 1);
        C.due("who is neither", x.turn(2, 0), NONE);
        C.due("who is FOR it, with nothing LEFT", x.turn(3, 0), NONE);
        x.tell(1, 0, 3);
        C.due("AGAINST: 3 to 3 is the least", x.turn(1, 0), NONE);
        x.tell(1, 0, 0);
        C.due("who is neither: CARRIED anyway", x.turn(2, 0), 1);
        // A MATTER behind another: 0 has tired his arm by then.
        RaisedArms behind = Checks.hall("stout 5 1;told 9 0;matter 5;matter 5;for 0 0 1;for 0 1 1;against 1 1 1");
        behind.tell(1, 1, 4);
        C.due("1 second against 4", behind.turn(0, 1), 5);
        behind.next(1);
        C.due("5 seconds against 4", behind.turn(0, 1), 1);
    }

    // Promise 23: UNKNOWN; NOT: the MATTER was put.
    private static void boughtRefused() {
        RaisedArms x = allCarried();
        for (int odd : new int[] {-1, 5, LOW, HIGH}) {
            C.due("no such MATTER: " + odd, x.bought(odd), UNKNOWN);
        }
        x.next(4);
        x.vote();
        C.due("it was put", x.bought(4), NOT);
        C.due("it comes", x.bought(0), 0);
        C.due("no MATTERS", new RaisedArms().bought(0), UNKNOWN);
    }

    // How many seconds (0 .. 200) .. make it CARRIED; none.
    private static void boughtAtItsBounds() {
        dueBought("CARRIED anyway", 5, 2, 1, 1, 0);
        dueBought("2 to 2", 5, 2, 2, 1, 1);
        dueBought("199 AGAINST", 5, 1, 25, 8, 200);
        dueBought("200 AGAINST", 5, 0, 25, 8, NONE);
        dueBought("9 tenths: 22 AGAINST", 9, 0, 22, 1, 199);
        dueBought("9 tenths: 23 AGAINST", 9, 7, 23, 1, NONE);
        dueBought("9 tenths: 23 AGAINST, 8 FOR", 9, 8, 23, 1, 200);
        dueBought("1 tenth: 9 AGAINST", 1, 0, 9, 1, 2);
        dueBought("1 tenth: 8 AGAINST", 1, 0, 8, 1, 1);
        C.due("nobody is there", Checks.hall("matter 9").bought(0), 1);
        RaisedArms behind = Checks.hall("stout 5 1;matter 5;matter 5;against 0 0 1;against 0 1 1");
        C.due("the first", behind.bought(0), 6);
        C.due("a MATTER behind another: 1 is LEFT", behind.bought(1), 2);
        behind.next(1);
        C.due("it comes first", behind.bought(1), 6);
    }

    private static void dueBought(String what, int need, int forIt, int against, int counts, int due) {
        RaisedArms x = Checks.hall("told 30 0;told 30 0;matter " + need + ";for 0 0 1;against 1 0 1;counts 1 " + counts);
        x.tell(0, 0, forIt);
        x.tell(1, 0, against);
        C.due(what, x.bought(0), due);
    }

    // Promise 24: UNKNOWN; NOT: nobody is there.
    private static void fairRefused() {
        RaisedArms nobody = Checks.hall("matter 5");
        C.due("nobody is there", nobody.fair(NONE), NOT);
        C.due("nobody is there: UNKNOWN ahead of NOT", nobody.fair(0), UNKNOWN);
        C.due("new: nobody is there", new RaisedArms().fair(NONE), NOT);
        RaisedArms six = Checks.hall("plain 1 0;plain 1 0;plain 1 0;plain 1 0;plain 1 0;plain 1 0");
        for (int odd : new int[] {-2, -3, 6, LOW, HIGH}) {
            C.due("no such one: " + odd, six.fair(odd), UNKNOWN);
        }
        C.due("the sixth", six.fair(5), 1);
    }

    private static void fairAtItsBounds() {
        dueFair(0, new int[] {30}, 1);
        dueFair(0, new int[] {0}, 1);
        dueFair(0, new int[] {0, 0, 0, 0, 0, 0}, 1, 1, 1, 1, 1, 1);
        dueFair(0, new int[] {30, 30, 30, 30, 30, 30}, 1, 1, 1, 1, 1, 1);
        dueFair(30, new int[] {0, 30}, 1, 1);
        dueFair(21, new int[] {1, 30}, 9, 1);
        dueFair(0, new int[] {1, 9}, 9, 1);
        dueFair(0, new int[] {9, 1}, 1, 9);
        dueFair(1, new int[] {1, 10}, 9, 1);
        // Of several such rows the first: twice as much would do as well.
        dueFair(0, new int[] {2, 4}, 2, 1);
        dueFair(0, new int[] {8, 9}, 9, 8);
        // 29 to 30, each once; nothing is nearer.
        dueFair(1, new int[] {29, 30}, 1, 1);
        // 7 and 10: 21 to 20.
        dueFair(1, new int[] {7, 10}, 3, 2);
        dueFair(1, new int[] {10, 7}, 2, 3);
        RaisedArms x = Checks.hall("plain 5 0;plain 5 0");
        C.due("ahead of another text", x.fair(NONE), 0);
        Checks.write(x, "hall;plain 0 0;plain 30 0");
        x.hall();
        C.due("behind it, nothing stays of what was fair", x.fair(NONE), 30);
    }

    private static void dueFair(int much, int[] arms, int... counts) {
        StringBuilder text = new StringBuilder();
        for (int arm : arms) {
            text.append(text.length() == 0 ? "" : ";").append("stout ").append(arm).append(" 5");
        }
        RaisedArms x = Checks.hall(text.toString());
        C.due("fair of " + text, x.fair(NONE), much);
        for (int person = 0; person < counts.length; person++) {
            C.due("fair of " + text + ": " + person, x.fair(person), counts[person]);
            C.due("COUNTS stay as they are", x.person(person, 3), 1);
        }
        C.due("no such one", x.fair(counts.length), UNKNOWN);
    }

    // Promise 25: h (0 .. 99). OUTSIDE.
    private static void hourRefused() {
        RaisedArms x = allCarried();
        for (int h : new int[] {-1, 100, LOW, HIGH}) {
            C.due("hour " + h, x.hour(h), OUTSIDE);
            C.due("new: hour " + h, new RaisedArms().hour(h), OUTSIDE);
        }
        C.due("hour 0", x.hour(0), 0);
        C.due("no MATTERS: hour 0", new RaisedArms().hour(0), 0);
        C.due("no MATTERS: hour 99", new RaisedArms().hour(99), 0);
    }

    // No REST (what is LEFT is not bound by ARM then).
    private static void hourAtItsBounds() {
        RaisedArms arm = Checks.hall("stout 0 9;told 0 0;matter 5;matter 5;for 0 0 1;against 1 0 1;for 0 1 1");
        C.due("0 seconds", arm.hour(0), 0);
        C.due("1 second, not bound by an ARM of 0; no REST", arm.hour(1), 1);
        arm.tell(1, 0, 98);
        C.due("98 to 98; nothing is LEFT", arm.hour(98), 0);
        C.due("99 to 98", arm.hour(99), 1);
        arm.tell(1, 0, 99);
        C.due("99 to 99", arm.hour(99), 0);
        RaisedArms kept = Checks.hall("plain 1 9;matter 5;matter 5;matter 5;for 0 0 2;for 0 1 2;for 0 2 2");
        C.due("4 seconds", kept.hour(4), 1);
        C.due("5: one is LEFT behind, though ARM is 1", kept.hour(5), 3);
        C.due("8", kept.hour(8), 3);
        C.due("9", kept.hour(9), 7);
        C.due("WATCH lowers, and has 1 LEFT", Checks.hall("watch 9 9;matter 5;matter 5;for 0 0 9;for 0 1 9").hour(2), 3);
        C.due("PLAIN does not", Checks.hall("plain 9 9;matter 5;matter 5;for 0 0 9;for 0 1 9").hour(2), 1);
    }

    // All of them put in ORDER.
    private static void hourOfAllInOrder() {
        RaisedArms x = Checks.hall("stout 3 0;matter 5;matter 5;matter 5;for 0 0 1;for 0 1 1;for 0 2 1");
        C.due("the first tires the arm", x.hour(50), 1);
        x.next(2);
        C.due("in ORDER", x.hour(50), 4);
        x.vote();
        C.due("what was put is put once more", x.hour(50), 4);
        x.vote();
        x.vote();
        C.due("all were put", x.hour(50), 4);
        C.due("what is LEFT now does not matter", x.person(0, 4), 0);
    }

    /** Six people and five MATTERS, as many as there may be: the last ones are like any other. */
    private static void fullHall() {
        RaisedArms x = Checks.hall("plain 30 0;plain 30 0;plain 30 0;plain 30 0;plain 30 0;plain 30 0;matter 5;matter 5;matter 5;matter 5;matter 5",
                "for 0 4 3;against 1 4 3;for 2 4 2;against 3 4 2;against 4 4 1;for 5 4 2");
        // FOR 6, 4, 4 seconds are held, AGAINST 6, 4, 2
        C.due("the last MATTER is carried, 14 to 12", x.carries(), 16);
        C.due("gain of the last one", x.gain(5), 102);
        C.due("the last MATTER behind four that nobody wants", x.put(16, 0), 0);
        C.due("it stays the last", x.put(16, 4), 4);
        C.due("turn of the last one, of the last MATTER", x.turn(5, 4), 1);
        C.due("bought of the last MATTER", x.bought(4), 0);
        C.due("six arms alike", x.fair(NONE), 0);
        C.due("the last one's COUNTS", x.fair(5), 1);
        C.due("6 to 6, if two seconds each", x.hour(2), 0);
        C.due("9 to 8, if three", x.hour(3), 16);
        x.next(4);
        C.due("best of the last one: carried", x.best(5, 1, NONE), 102);
        C.due("10 are for it without him, 12 against: 3 seconds", x.best(5, 1, 0), 3);
        C.due("best of one against it: not carried", x.best(4, 3, NONE), 100);
        C.due("10 are against it without him, 14 for: 4 seconds", x.best(4, 3, 0), 4);
        C.due("and none of a MATTER of no WORTH", x.best(4, 3, 2), 0);
    }

    // FORETOLD from now (nothing changes).
    private static void nothingChanges() {
        Observed.unchanged(C, "carries", ForetoldBoundariesTest::busy, RaisedArms::carries, 5);
        Observed.unchanged(C, "gain", ForetoldBoundariesTest::busy, x -> x.gain(0), 97);
        Observed.unchanged(C, "settles", ForetoldBoundariesTest::busy, RaisedArms::settles, 2);
        Observed.unchanged(C, "best", ForetoldBoundariesTest::busy, x -> x.best(0, 2, NONE), 105);
        Observed.unchanged(C, "put", ForetoldBoundariesTest::busy, x -> x.put(1, 0), 0);
        Observed.unchanged(C, "turn", ForetoldBoundariesTest::busy, x -> x.turn(0, 2), 1);
        Observed.unchanged(C, "bought", ForetoldBoundariesTest::busy, x -> x.bought(2), 0);
        Observed.unchanged(C, "fair", ForetoldBoundariesTest::busy, x -> x.fair(NONE), 0);
        Observed.unchanged(C, "hour", ForetoldBoundariesTest::busy, x -> x.hour(9), 7);
        Observed.unchanged(C, "judge", ForetoldBoundariesTest::busy, RaisedArms::judge, NONE);
        Observed.unchanged(C, "arms", ForetoldBoundariesTest::busy, x -> x.arms(0, 0), 1);
        Observed.unchanged(C, "fault", ForetoldBoundariesTest::busy, RaisedArms::fault, 4);
    }

    /** One was put, and two come: 2, which 0 is FOR and 1 is neither, and 0, which 1 is FOR and 0 AGAINST. */
    private static RaisedArms busy() {
        RaisedArms x = Checks.hall("told 9 3;watch 9 3;matter 5;matter 5;matter 5;for 0 1 1;for 1 1 1;for 0 2 5;against 0 0 8;for 1 0 9");
        x.tell(0, 1, 4);
        x.tell(0, 2, 6);
        x.next(1);
        x.vote();
        x.keep(0);
        x.next(2);
        x.row(0, 1, 1, 0);
        Checks.write(x, "hold");
        return x;
    }
}
