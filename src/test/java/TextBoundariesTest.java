/** The boundary cases of THE TEXT and of promises 1 to 5, sentence by sentence. */
public final class TextBoundariesTest {
    private static final int NONE = RaisedArms.NONE, UNKNOWN = RaisedArms.UNKNOWN, OUTSIDE = RaisedArms.OUTSIDE;
    private static final int NOT = RaisedArms.NOT, FULL = RaisedArms.FULL;
    private static final int LOW = Integer.MIN_VALUE, HIGH = Integer.MAX_VALUE;
    private static final Checks C = new Checks();
    private static final String SIX = "plain 1 1;watch 1 1;stout 1 1;told 1 1;plain 1 1;watch 1 1";
    private static final String FIVE = "matter 1;matter 2;matter 3;matter 4;matter 5";
    private static final String TWELVE = "hold 1;hold 2;hold 3;hold 4;hold 5;hold 6;hold 7;hold 8;hold 9;hold 1;hold 2;hold 3";

    public static void main(String[] args) {
        nobodyAtFirst();
        writeTakesOneToEightBytes();
        writeTakesBytesFromTheLowest();
        textHas200BytesAtMost();
        eraseOfFullAndEmpty();
        fullTextIsReadToItsEnd();
        emptyTextsAndLines();
        twelveLinesAtMost();
        numbersOfOneOrTwoDigits();
        boundsOfNumbers();
        boundsOfPeopleAndMatters();
        theSeventhAndTheSixth();
        tokens();
        blanks();
        theEndTooSoon();
        theFirstFault();
        faultChangesNothing();
        hallRefused();
        hallOfNobody();
        firstNumbersOfWhoComes();
        anEveningBegins();
        C.end("TextBoundariesTest");
    }

    // Promise 1: nobody, no MATTERS; HOLD is 2 at first.
    private static void nobodyAtFirst() {
        RaisedArms x = new RaisedArms();
        C.due("PEOPLE: none at first", x.count(0), 0);
        C.due("MATTERS: none at first", x.count(1), 0);
        C.due("HOLD: 2 at first", x.count(2), 2);
        C.due("no MATTER was put", x.count(3), 0);
        C.due("no COUNTS are told", x.count(4), 0);
        C.due("THE TEXT is empty", x.count(5), 0);
        C.due("no such one", x.person(0, 0), UNKNOWN);
        C.due("no such MATTER", x.bought(0), UNKNOWN);
        C.due("none in ORDER", x.order(0), NONE);
        C.due("none is to come", x.vote(), NOT);
        C.due("nothing is kept: 0", x.back(0), NOT);
        C.due("nothing is kept: 1", x.back(1), NOT);
        RaisedArms other = Checks.hall("plain 3 3;matter 5;hold 9");
        C.due("objects are apart", new RaisedArms().count(0), 0);
        C.due("the other stays", other.count(0), 1);
    }

    // Promise 2: n (1 .. 8); OUTSIDE.
    private static void writeTakesOneToEightBytes() {
        int[] outside = {0, 9, -1, -8, 16, 256 + 1, LOW, HIGH};
        for (int n : outside) {
            RaisedArms x = new RaisedArms();
            x.write('h', 1);
            C.due("write n " + n, x.write(-1L, n), OUTSIDE);
            C.due("write n " + n + ": nothing is written", x.count(5), 1);
        }
        for (int n = 1; n <= 8; n++) {
            RaisedArms x = new RaisedArms();
            C.due("write n " + n + " to an empty text", x.write(0, n), n);
            C.due("write n " + n + " once more", x.write(0, n), 2 * n);
        }
    }

    // Promise 2: byte i being bytes >> 8 i & 255.
    private static void writeTakesBytesFromTheLowest() {
        RaisedArms x = new RaisedArms();
        x.write(0x6C_6C_61_68L, 4);
        C.due("the lowest byte is the first", x.fault(), NONE);
        x.erase();
        x.write(0xFFFFFFFF_6C6C6168L, 4);
        C.due("bytes behind n are not taken", x.fault(), NONE);
        C.due("four bytes", x.count(5), 4);
        for (int i = 0; i < 8; i++) {
            RaisedArms y = new RaisedArms();
            // Each byte keeps all its eight bits: a blank made 160 is no blank.
            byte[] bytes = {'h', 'a', 'l', 'l', ' ', ' ', ' ', ' '};
            bytes[i] |= (byte) 128;
            long all = 0;
            for (int k = 0; k < 8; k++) {
                all |= (bytes[k] & 255L) << 8 * k;
            }
            y.write(all, 8);
            // A letter made another byte leaves the row of letters ahead of it, which is no word.
            C.due("byte " + i + " above 127", y.fault(), i < 4 ? 0 : i);
        }
        RaisedArms z = new RaisedArms();
        z.write(-1L, 8);
        C.due("eight bytes 255", z.fault(), 0);
        C.due("eight bytes 255 are eight", z.count(5), 8);
        z.erase();
        z.write(0, 8);
        C.due("eight bytes 0 are no blanks", z.fault(), 0);
    }

    // THE TEXT is a row of bytes, 200 at most; FULL.
    private static void textHas200BytesAtMost() {
        for (int n = 1; n <= 8; n++) {
            RaisedArms just = ofBlanks(200 - n);
            C.due(n + " bytes to 200", just.write(0, n), 200);
            C.due("one more than 200", just.write(0, 1), FULL);
            C.due("eight more than 200", just.write(0, 8), FULL);
            C.due("FULL: nothing is written", just.count(5), 200);
            RaisedArms over = ofBlanks(201 - n);
            C.due(n + " bytes to 201", over.write(0, n), FULL);
            C.due(n + " bytes to 201: none of them", over.count(5), 201 - n);
        }
        C.due("OUTSIDE comes ahead of FULL", ofBlanks(200).write(0, 0), OUTSIDE);
        C.due("OUTSIDE comes ahead of FULL", ofBlanks(200).write(0, 9), OUTSIDE);
        C.due("OUTSIDE comes ahead of FULL", ofBlanks(200).write(0, HIGH), OUTSIDE);
    }

    private static RaisedArms ofBlanks(int many) {
        RaisedArms x = new RaisedArms();
        Checks.write(x, " ".repeat(many));
        return x;
    }

    // Promise 3: THE TEXT is empty: how many bytes it had.
    private static void eraseOfFullAndEmpty() {
        RaisedArms x = ofBlanks(200);
        C.due("erase of a full text", x.erase(), 200);
        C.due("erase of an empty one", x.erase(), 0);
        C.due("it is empty", x.count(5), 0);
        C.due("written anew from 0", x.write(0, 8), 8);
        RaisedArms y = Checks.hall("plain 3 3;matter 5");
        y.vote();
        y.erase();
        C.due("erase leaves the hall: people", y.count(0), 1);
        C.due("erase leaves the hall: what was put", y.count(3), 1);
        Checks.write(y, "hold 12");
        y.erase();
        Checks.write(y, "hold");
        C.due("nothing of the text ahead is left", y.fault(), 4);
    }

    private static void fullTextIsReadToItsEnd() {
        String blanks = " ".repeat(192);
        fault("200 bytes without FAULT", "hold " + blanks + " 09", NONE);
        fault("the last of 200 bytes", "hold  3 " + " ".repeat(191) + "x", 199);
        fault("the end behind 200 bytes", " ".repeat(200), 200);
        fault("the end behind 200 bytes", " ".repeat(196) + "hold", 200);
        fault("a row of 200 letters", "a".repeat(200), 0);
        fault("a number of 195 digits", "hold " + "0".repeat(195), 5);
        RaisedArms x = new RaisedArms();
        Checks.write(x, " ".repeat(196) + "hall");
        C.due("a LINE at the end of 200 bytes", x.hall(), 1);
        C.due("it is empty then", x.count(5), 0);
    }

    // LINES with ; between; at the end, if it comes too soon.
    private static void emptyTextsAndLines() {
        fault("an empty text", "", 0);
        C.due("hall of an empty text", new RaisedArms().hall(), NOT);
        fault("a blank", " ", 1);
        fault("a ; alone", ";", 0);
        fault("a ; behind a blank", " ;", 1);
        fault("the first LINE is empty", ";hall", 0);
        fault("the last LINE is empty", "hall;", 5);
        fault("the last LINE is blank", "hall;  ", 7);
        fault("a LINE between is empty", "hall;;hall", 5);
        fault("a LINE between is blank", "hall; ;hall", 6);
    }

    // LINES .. 12 at most.
    private static void twelveLinesAtMost() {
        fault("twelve LINES", TWELVE, NONE);
        fault("twelve LINES and blanks", TWELVE + "   ", NONE);
        fault("twelve LINES and ;", TWELVE + ";", TWELVE.length());
        fault("thirteen LINES", TWELVE + ";hall", TWELVE.length());
        fault("thirteen LINES, blanks ahead of the ;", TWELVE + "  ;hall", TWELVE.length() + 2);
        fault("a FAULT of the twelfth", TWELVE.substring(0, TWELVE.length() - 1) + "0", TWELVE.length() - 1);
        fault("a number too many of the twelfth", TWELVE + " 1", TWELVE.length() + 1);
        RaisedArms x = new RaisedArms();
        Checks.write(x, TWELVE);
        C.due("hall of twelve LINES", x.hall(), 12);
        C.due("the twelfth was done", x.count(2), 3);
        Checks.write(x, TWELVE + ";hall");
        C.due("hall of thirteen", x.hall(), NOT);
        x.erase();
        Checks.write(x, "hall");
        C.due("hall of one LINE", x.hall(), 1);
    }

    // Numbers of 1 or 2 digits; of more digits, also (a FAULT).
    private static void numbersOfOneOrTwoDigits() {
        fault("one digit", "hold 1", NONE);
        fault("two digits", "hold 01", NONE);
        fault("three digits", "hold 001", 5);
        fault("three digits within bounds by their end", "hold 101", 5);
        fault("three digits: 000", "plain 000 0", 6);
        fault("ten digits: 2 to the 32nd and 1", "hold 4294967297", 5);
        fault("twenty digits: 2 to the 64th and 1", "hold 18446744073709551617", 5);
        fault("two digits, then two: two numbers", "plain 10 09", NONE);
        fault("00 is 0", "plain 00 00", NONE);
    }

    // A number out of its bounds.
    private static void boundsOfNumbers() {
        for (String kind : new String[] {"plain", "watch", "stout", "told"}) {
            int at = kind.length() + 1;
            fault(kind + ": ARM 0, REST 0", kind + " 0 0", NONE);
            fault(kind + ": ARM 30, REST 9", kind + " 30 9", NONE);
            fault(kind + ": ARM 31", kind + " 31 0", at);
            fault(kind + ": ARM 99", kind + " 99 0", at);
            fault(kind + ": REST 10", kind + " 0 10", at + 2);
            fault(kind + ": REST 99", kind + " 30 99", at + 3);
        }
        fault("NEED 0", "matter 0", 7);
        fault("NEED 1", "matter 1", NONE);
        fault("NEED 9", "matter 9", NONE);
        fault("NEED 10", "matter 10", 7);
        fault("HOLD 0", "hold 0", 5);
        fault("HOLD 1", "hold 1", NONE);
        fault("HOLD 9", "hold 9", NONE);
        fault("HOLD 10", "hold 10", 5);
        String ahead = "plain 1 1;matter 5;";
        for (String word : new String[] {"for", "against"}) {
            int at = ahead.length() + word.length() + 5;
            fault(word + ": V 0", ahead + word + " 0 0 0", NONE);
            fault(word + ": V 9", ahead + word + " 0 0 9", NONE);
            fault(word + ": V 10", ahead + word + " 0 0 10", at);
            fault(word + ": V -1", ahead + word + " 0 0 -1", at);
        }
        fault("COUNTS 0", ahead + "counts 0 0", ahead.length() + 9);
        fault("COUNTS 1", ahead + "counts 0 1", NONE);
        fault("COUNTS 9", ahead + "counts 0 9", NONE);
        fault("COUNTS 10", ahead + "counts 0 10", ahead.length() + 9);
    }

    // I, M such as there are behind the LINES ahead.
    private static void boundsOfPeopleAndMatters() {
        fault("for: nobody is there", "matter 5;for 0 0 1", 13);
        fault("against: nobody is there", "matter 5;against 0 0 1", 17);
        fault("counts: nobody is there", "counts 0 1", 7);
        fault("for: no MATTER is there", "plain 1 1;for 0 0 1", 16);
        fault("against: no MATTER is there", "plain 1 1;against 0 0 1", 20);
        fault("who comes behind", "for 0 0 1;plain 1 1;matter 5", 4);
        fault("a MATTER that comes behind", "plain 1 1;for 0 0 1;matter 5", 16);
        fault("counts of who comes behind", "plain 1 1;counts 1 1;plain 1 1", 17);
        RaisedArms full = Checks.hall(SIX, FIVE);
        for (String word : new String[] {"for", "against"}) {
            int at = word.length() + 1;
            C.due(word + ": the sixth and the fifth", Checks.fault(full, word + " 5 4 9"), NONE);
            C.due(word + ": a seventh", Checks.fault(full, word + " 6 4 9"), at);
            C.due(word + ": a sixth MATTER", Checks.fault(full, word + " 5 5 9"), at + 2);
            C.due(word + ": 99", Checks.fault(full, word + " 99 0 9"), at);
        }
        C.due("counts: the sixth", Checks.fault(full, "counts 5 9"), NONE);
        C.due("counts: a seventh", Checks.fault(full, "counts 6 9"), 7);
        C.due("nobody behind hall", Checks.fault(full, "hall;matter 5;for 0 0 1"), 18);
        C.due("no MATTER behind hall", Checks.fault(full, "hall;plain 1 1;for 0 0 1"), 21);
        C.due("who came behind hall", Checks.fault(full, "hall;plain 1 1;matter 5;for 0 0 1"), NONE);
        C.due("no second one behind hall", Checks.fault(full, "hall;plain 1 1;matter 5;for 1 0 1"), 28);
    }

    // A seventh, a sixth cannot stand there (at its word).
    private static void theSeventhAndTheSixth() {
        fault("six in one text", SIX, NONE);
        fault("five MATTERS in one text", FIVE, NONE);
        RaisedArms full = Checks.hall(SIX, FIVE);
        for (String kind : new String[] {"plain", "watch", "stout", "told"}) {
            fault("a seventh in one text: " + kind, SIX + "; " + kind + " 1 1", SIX.length() + 2);
            fault("at its word, whatever is behind: " + kind, SIX + ";" + kind + " 99", SIX.length() + 1);
            C.due("a seventh in another text: " + kind, Checks.fault(full, kind + " 1 1"), 0);
            C.due("a seventh behind hall is none: " + kind, Checks.fault(full, "hall;" + kind + " 1 1"), NONE);
        }
        fault("a sixth MATTER in one text", FIVE + ";matter 1", FIVE.length() + 1);
        fault("a sixth at its word, whatever is behind", FIVE + ";matter", FIVE.length() + 1);
        C.due("a sixth MATTER in another text", Checks.fault(full, "matter 1"), 0);
        C.due("a sixth behind hall is none", Checks.fault(full, "hall;matter 1"), NONE);
        C.due("six behind hall", Checks.fault(full, "hall;" + SIX), NONE);
        C.due("a seventh behind hall", Checks.fault(full, "hall;" + SIX + ";plain 1 1"), SIX.length() + 6);
        C.due("a seventh ahead of hall", Checks.fault(full, "plain 1 1;hall"), 0);
        C.due("a sixth ahead of hall", Checks.fault(full, "hold 1;matter 1;hall"), 7);
        C.due("MATTERS are no people", Checks.fault(Checks.hall(SIX), FIVE), NONE);
        C.due("people are no MATTERS", Checks.fault(Checks.hall(FIVE), SIX), NONE);
    }

    // A TOKEN: a row of small letters, a row of digits, any other byte.
    private static void tokens() {
        fault("the byte ahead of a", "hall`", 4);
        fault("the byte behind z", "hall{", 4);
        fault("the byte ahead of 0", "hold 1/", 6);
        fault("the byte behind 9", "hold 1:", 6);
        fault("a: a row of letters", "halla", 0);
        fault("z: a row of letters", "zhall", 0);
        fault("z behind: a row of letters", "hallz", 0);
        fault("0: a row of digits", "hold 100", 5);
        fault("9: a row of digits", "hold 199", 5);
        fault("A capital", "HALL", 0);
        fault("a capital within a word", "haLl", 0);
        fault("other bytes stand alone", "plain !!", 6);
        fault("a sign ahead of a number", "hold +1", 5);
        fault("a point behind a LINE", "hall.", 4);
        fault("digits end a row of letters", "hall1", 4);
        fault("letters end a row of digits", "hold 1x", 6);
        fault("a word cut", "hal", 0);
        fault("a word with a letter more", "halls", 0);
        fault("two words in one row", "hallhall", 0);
        fault("a word that begins another", "fort 0 0 0", 0);
        fault("a word of the kinds that is none here", "voter 1 1", 0);
        fault("a word where a number is due", "plain plain", 6);
        fault("a number where a word is due", "1 plain", 0);
        fault("a ; where a number is due", "plain 1;hall", 7);
        fault("a word where ; is due", "hall hall", 5);
        fault("a number where ; is due", "hall 1", 5);
        for (int other : new int[] {0, 1, 31, 33, 58, 60, 127, 128, 160, 255}) {
            fault("byte " + other + " ahead", (char) other + "hall", 0);
            fault("byte " + other + " between", "hold" + (char) other + "1", 4);
            fault("byte " + other + " behind", "hall" + (char) other, 4);
        }
    }

    // Blanks (32) between.
    private static void blanks() {
        fault("one blank", "plain 1 1;hall", NONE);
        fault("many blanks", "  plain   1   1   ;   hall   ", NONE);
        fault("none where rows differ", "plain1 1", NONE);
        fault("none between digits: one number", "plain 11", 8);
        fault("a blank in a word", "pl ain 1 1", 0);
        fault("a blank in a number", "hold 0 9", 5);
        fault("a tab", "plain\t1 1", 5);
        fault("a line feed", "hall;\nhall", 5);
    }

    // At the end, if it comes too soon: the length.
    private static void theEndTooSoon() {
        RaisedArms x = Checks.hall("plain 1 1;matter 5");
        String[] cut = {"plain", "plain 1", "watch", "watch 1", "stout", "stout 1", "told", "told 1", "matter", "hold",
            "for", "for 0", "for 0 0", "against", "against 0", "against 0 0", "counts", "counts 0"};
        for (String text : cut) {
            C.due("the end behind " + text, Checks.fault(x, text), text.length());
            C.due("the end behind blanks behind " + text, Checks.fault(x, text + "  "), text.length() + 2);
            C.due("a ; behind " + text, Checks.fault(x, text + " ;hall"), text.length() + 1);
        }
        String[] whole = {"hall", "plain 1 1", "watch 1 1", "stout 1 1", "told 1 1", "matter 1", "hold 1", "for 0 0 1",
            "against 0 0 1", "counts 0 1"};
        for (String text : whole) {
            C.due("not too soon: " + text, Checks.fault(x, text), NONE);
            C.due("a number too many: " + text, Checks.fault(x, text + " 1"), text.length() + 1);
        }
    }

    private static void theFirstFault() {
        fault("of two numbers the first", "plain 31 10", 6);
        fault("of a number and the end", "plain 31", 6);
        fault("of two LINES the first", "hold 0;hold 10", 5);
        fault("behind right LINES", "hall;hold 9;hold 10;oops", 17);
    }

    // Promise 4 changes nothing.
    private static void faultChangesNothing() {
        RaisedArms x = Checks.hall("plain 3 3;matter 5");
        x.vote();
        x.keep(0);
        Checks.write(x, "hall;hold 9");
        C.due("no FAULT", x.fault(), NONE);
        C.due("asked again", x.fault(), NONE);
        C.due("THE TEXT stays", x.count(5), 11);
        C.due("its LINES are not done: people", x.count(0), 1);
        C.due("its LINES are not done: HOLD", x.count(2), 2);
        C.due("the evening stays", x.count(3), 1);
        C.due("what was kept stays", x.back(0), 1);
        x.write(';', 1);
        C.due("a FAULT with one byte more", x.fault(), 12);
        x.write('h' | 'a' << 8 | 'l' << 16 | 'l' << 24, 4);
        C.due("none with four more", x.fault(), NONE);
    }

    // Promise 5: NOT: it has a FAULT; nothing changes, none of its LINES is done.
    private static void hallRefused() {
        String[] faulty = {"hall;", "hall;plain 1 1;hold 0", "hold 9;oops", "matter 1;matter 10", ""};
        for (String text : faulty) {
            Observed.refused(C, "hall of \"" + text + "\"", () -> busy(text), RaisedArms::hall, NOT);
        }
        RaisedArms x = busy("hold 9;");
        x.hall();
        Checks.write(x, "hold 8");
        C.due("mended by more bytes", x.hall(), 2);
        C.due("both LINES are done", x.count(2), 8);
    }

    private static RaisedArms busy(String text) {
        RaisedArms x = Checks.hall("told 9 1;plain 9 1;matter 5;matter 4;for 0 0 1;against 1 0 2;for 1 1 9;counts 1 3");
        x.tell(0, 0, 4);
        x.next(1);
        x.vote();
        x.keep(1);
        x.row(1, 1, 1, 0);
        Checks.write(x, text);
        return x;
    }

    // Hall: nobody, no MATTERS, HOLD 2.
    private static void hallOfNobody() {
        RaisedArms x = Checks.hall(SIX, FIVE, "hold 9;for 0 0 9;for 5 4 9;counts 0 9");
        Checks.write(x, "hall");
        C.due("hall", x.hall(), 1);
        C.due("nobody", x.count(0), 0);
        C.due("no MATTERS", x.count(1), 0);
        C.due("HOLD 2", x.count(2), 2);
        C.due("no such one", x.person(0, 0), UNKNOWN);
        C.due("none in ORDER", x.order(0), NONE);
        C.due("none is to come", x.vote(), NOT);
        Checks.write(x, "hold 7;hall;hold 3");
        x.hall();
        C.due("LINES are done in their order", x.count(2), 3);
        Checks.write(x, SIX);
        C.due("six come anew", x.hall(), 6);
        Checks.write(x, FIVE);
        C.due("five come anew", x.hall(), 5);
        for (int person = 0; person < 6; person++) {
            C.due("COUNTS 1 at first: " + person, x.person(person, 3), 1);
            for (int matter = 0; matter < 5; matter++) {
                C.due("WORTH 0 at first: " + person + ", " + matter, x.worth(person, matter), 100);
            }
        }
    }

    private static void firstNumbersOfWhoComes() {
        RaisedArms x = Checks.hall("plain 0 0;stout 30 9;matter 1;matter 9;for 0 0 9;against 1 1 9;counts 0 9;counts 1 1");
        C.due("WORTH 9", x.worth(0, 0), 109);
        C.due("WORTH -9", x.worth(1, 1), 91);
        Checks.write(x, "against 0 0 0;for 1 1 0;told 7 0;matter 3");
        x.hall();
        C.due("against 0 is 0", x.worth(0, 0), 100);
        C.due("for 0 is 0", x.worth(1, 1), 100);
        C.due("who comes later: WORTH 0", x.worth(2, 0), 100);
        C.due("a MATTER that comes later: WORTH 0", x.worth(0, 2), 100);
        C.due("who comes later: COUNTS 1", x.person(2, 3), 1);
        C.due("COUNTS stay behind a text", x.person(0, 3), 9);
        Checks.write(x, "for 0 0 1;against 0 0 9;for 0 0 4");
        x.hall();
        C.due("of three LINES the last", x.worth(0, 0), 104);
    }

    // Behind them AN EVENING begins.
    private static void anEveningBegins() {
        RaisedArms x = Checks.hall("told 5 0;stout 9 0;matter 5;matter 5;matter 5;for 0 0 1;for 1 2 1");
        x.tell(0, 0, 5);
        x.tell(0, 1, 99);
        x.next(2);
        x.vote();
        x.next(1);
        x.keep(0);
        x.keep(1);
        x.row(0, 1, 0, 1);
        C.due("an arm is tired", x.person(1, 4), 0);
        Checks.write(x, "hold 2");
        x.hall();
        C.due("no MATTER was put", x.count(3), 0);
        C.due("no result", x.result(2, 0), NOT);
        C.due("nothing was held", x.held(1, 2), NOT);
        C.due("all arms are LEFT: 0", x.person(0, 4), 5);
        C.due("all arms are LEFT: 1", x.person(1, 4), 9);
        for (int i = 0; i < 3; i++) {
            C.due("ORDER is by numbers", x.order(i), i);
        }
        C.due("TOLD ones hold 0 of 0", x.tell(0, 0, 0), 0);
        C.due("TOLD ones hold 0 of 1", x.tell(0, 1, 0), 0);
        C.due("no COUNTS are told", x.count(4), 0);
        C.due("nothing is kept: 0", x.back(0), NOT);
        C.due("nothing is kept: 1", x.back(1), NOT);
    }

    /** In a hall of nobody. */
    private static void fault(String what, String text, int place) {
        C.due(what, Checks.fault(new RaisedArms(), text), place);
        if (place != NONE) {
            RaisedArms x = new RaisedArms();
            Checks.write(x, text);
            C.due(what + ": hall", x.hall(), NOT);
        }
    }
}
