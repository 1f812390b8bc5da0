import java.util.Random;

/** Runs of calls, always the same ones, each answered by the class and by the plain model. */
public final class ModelTest {
    private static final Checks C = new Checks();
    private static final String[] NAMES = {"write", "erase", "fault", "hall", "person", "worth", "as", "tell", "order", "next",
        "vote", "result", "held", "keep", "back", "carries", "gain", "settles", "best", "put", "turn", "bought", "fair", "hour",
        "row", "forget", "judge", "arms", "count"};

    private final Random random;
    private final int run;
    private final RaisedArms real = new RaisedArms();
    private final PlainModel model = new PlainModel();
    private final int mostArm;
    private int people;
    private int matters;
    private int calls;

    private ModelTest(int run) {
        this.run = run;
        random = new Random(run * 7919L + 17);
        mostArm = run % 4 == 0 ? 30 : run % 4 == 1 ? 4 : 10;
    }

    public static void main(String[] args) {
        int runs = args.length > 1 ? Integer.parseInt(args[1]) : 400;
        for (int run = 0; run < runs; run++) {
            new ModelTest(run).play();
        }
        for (int run = 0; run < runs; run++) {
            new ModelTest(run).fairs();
        }
        for (int run = 0; run < runs / 20; run++) {
            new ModelTest(run).longBests();
        }
        C.end("ModelTest");
    }

    private void play() {
        int texts = 1 + random.nextInt(4);
        for (int t = 0; t < texts; t++) {
            text(t == 0 ? hallText() : lines(1 + random.nextInt(9), true));
            text(worthText());
            text(worthText());
            int many = 10 + random.nextInt(60);
            for (int i = 0; i < many && calls < 480; i++) {
                any();
            }
        }
    }

    /** FAIR for a few people: the rows of all six are too many for the model to go through each time. */
    private void fairs() {
        int many = 1 + upTo(run % 50 == 0 ? 5 : 3);
        StringBuilder s = new StringBuilder("hall");
        for (int i = 0; i < many; i++) {
            s.append(";plain ").append(upTo(30)).append(" 0");
        }
        text(s.toString());
        for (int person = -1; person < many; person++) {
            call(22, person, 0, 0, 0);
        }
    }

    /** BEST of three MATTERS by long arms, among others who watch. */
    private void longBests() {
        text("watch 30 " + upTo(9) + ";watch " + (10 + upTo(20)) + " " + upTo(9) + ";watch 30 " + upTo(9) + ";told 30 9;matter "
                + (1 + upTo(8)) + ";matter 5;matter " + (1 + upTo(8)) + ";hold " + (1 + upTo(4)));
        text(worthText());
        text(worthText());
        call(7, 3, upTo(2), upTo(30), 0);
        int person = upTo(3);
        for (int i = -1; i < 3; i++) {
            call(18, person, 3, i, 0);
        }
    }

    private int upTo(int most) {
        return random.nextInt(most + 1);
    }

    private String hallText() {
        StringBuilder s = new StringBuilder();
        people = 1 + upTo(5);
        matters = 1 + upTo(4);
        for (int i = 0; i < people; i++) {
            s.append(new String[] {"plain", "watch", "stout", "told"}[upTo(3)]).append(' ').append(upTo(mostArm)).append(' ').append(upTo(9)).append(';');
        }
        for (int i = 0; i < matters; i++) {
            s.append("matter ").append(random.nextBoolean() ? 5 : 1 + upTo(8)).append(';');
        }
        s.setLength(s.length() - 1);
        return s.toString();
    }

    private String worthText() {
        people = model.count(0);
        matters = model.count(1);
        StringBuilder s = new StringBuilder("hold ").append(1 + upTo(3));
        for (int i = 0; i < 11; i++) {
            if (people == 0 || matters == 0) {
                break;
            }
            if (upTo(5) == 0) {
                s.append(";counts ").append(upTo(people - 1)).append(' ').append(1 + upTo(8));
            } else {
                s.append(random.nextBoolean() ? ";for " : ";against ").append(upTo(people - 1)).append(' ');
                s.append(upTo(matters - 1)).append(' ').append(upTo(9));
            }
        }
        return s.toString();
    }

    /** Lines of any kind, most of them right; with faults put in. */
    private String lines(int many, boolean isFaulty) {
        StringBuilder s = new StringBuilder();
        String[] words = {"hall", "plain", "watch", "stout", "told", "matter", "for", "against", "counts", "hold"};
        int[] numbers = {0, 2, 2, 2, 2, 1, 3, 3, 2, 1};
        for (int i = 0; i < many; i++) {
            int word = upTo(3) == 0 ? upTo(9) : 5 + upTo(4);
            s.append(i == 0 ? "" : ";").append(words[word]);
            for (int k = 0; k < numbers[word]; k++) {
                s.append(" ".repeat(upTo(9) == 0 ? upTo(2) : 1)).append(upTo(6) == 0 ? upTo(12) : upTo(2) + (k == numbers[word] - 1 ? 1 : 0));
            }
        }
        if (isFaulty && upTo(3) == 0 && s.length() > 0) {
            String odd = ";; az09X\t" + (char) 255 + (char) 0;
            int at = upTo(s.length() - 1);
            char c = odd.charAt(upTo(odd.length() - 1));
            if (random.nextBoolean()) {
                s.insert(at, c);
            } else {
                s.setCharAt(at, c);
            }
        }
        return s.toString();
    }

    private void text(String text) {
        for (int from = 0; from < text.length(); from += 8) {
            int n = Math.min(8, text.length() - from);
            long bytes = random.nextLong() & (n == 8 ? 0 : -1L << 8 * n);
            for (int i = 0; i < n; i++) {
                bytes |= (long) text.charAt(from + i) << 8 * i;
            }
            call(0, bytes, n, 0, 0);
        }
        call(2, 0, 0, 0, 0);
        call(3, 0, 0, 0, 0);
        if (upTo(5) != 0) {
            call(1, 0, 0, 0, 0);
        }
        people = model.count(0);
        matters = model.count(1);
    }

    private void any() {
        int name = upTo(28);
        if ((name == 1 || name == 3) && upTo(3) != 0) {
            name = 10;
        }
        if (name == 22 && upTo(9) != 0) {
            name = 9; // the model's fair goes through half a million rows
        }
        if (name == 0) {
            call(0, random.nextLong(), upTo(9), 0, 0);
            call(2, 0, 0, 0, 0);
            call(1, 0, 0, 0, 0);
            return;
        }
        int person = number(people);
        int matter = number(matters);
        switch (name) {
            case 4: call(4, person, number(5), 0, 0); break;
            case 5: call(5, person, matter, 0, 0); break;
            case 6: call(6, person, number(5), matter, 0); break;
            case 7: call(7, person, matter, upTo(9) == 0 ? 95 + upTo(9) : upTo(15), 0); break;
            case 8: call(8, number(5), 0, 0, 0); break;
            case 9: call(9, matter, 0, 0, 0); break;
            case 11: call(11, matter, number(4), 0, 0); break;
            case 12: call(12, person, matter, 0, 0); break;
            case 13: case 14: call(name, number(2), 0, 0, 0); break;
            case 18: best(person); break;
            case 19: put(); break;
            case 20: call(20, person, matter, 0, 0); break;
            case 21: call(21, matter, 0, 0, 0); break;
            case 23: call(23, upTo(4) == 0 ? 95 + upTo(9) : upTo(20) - 1, 0, 0, 0); break;
            case 24: call(24, matter, upTo(9) == 0 ? 998 + upTo(3) : upTo(20), upTo(9) == 0 ? upTo(2) - 1 : upTo(20), number(2)); break;
            case 27: call(27, person, upTo(32) - 1, 0, 0); break;
            case 28: call(28, number(6), 0, 0, 0); break;
            default: call(name, person, 0, 0, 0); break;
        }
    }

    /** Mostly one of 0 .. many - 1, else near. */
    private int number(int many) {
        return upTo(11) == 0 || many == 0 ? upTo(many + 2) - 1 : upTo(many - 1);
    }

    private void best(int person) {
        int k = mostArm > 10 ? number(2) + 1 : number(3) + 1;
        for (int i = -1; i <= (upTo(3) == 0 ? 3 : 1); i++) {
            call(18, person, k, i, 0);
        }
        call(18, person, k, -2, 0);
    }

    private void put() {
        int set = upTo(19) == 0 ? upTo(40) - 2 : upTo((1 << matters) - 1) & random.nextInt();
        for (int i = -1; i < 4; i++) {
            call(19, set, i, 0, 0);
        }
    }

    private void call(int name, long a, int b, int c, int d) {
        calls++;
        int p = (int) a;
        long[] both;
        switch (name) {
            case 0: both = two(real.write(a, b), model.write(a, b)); break;
            case 1: both = two(real.erase(), model.erase()); break;
            case 2: both = two(real.fault(), model.fault()); break;
            case 3: both = two(real.hall(), model.hall()); break;
            case 4: both = two(real.person(p, b), model.person(p, b)); break;
            case 5: both = two(real.worth(p, b), model.worth(p, b)); break;
            case 6: both = two(real.as(p, b, c), model.as(p, b, c)); break;
            case 7: both = two(real.tell(p, b, c), model.tell(p, b, c)); break;
            case 8: both = two(real.order(p), model.order(p)); break;
            case 9: both = two(real.next(p), model.next(p)); break;
            case 10: both = two(real.vote(), model.vote()); break;
            case 11: both = two(real.result(p, b), model.result(p, b)); break;
            case 12: both = two(real.held(p, b), model.held(p, b)); break;
            case 13: both = two(real.keep(p), model.keep(p)); break;
            case 14: both = two(real.back(p), model.back(p)); break;
            default: both = foretold(name, p, b, c, d); break;
        }
        if (both[0] == both[1]) {
            C.due("", both[0], both[1]);
        } else {
            C.due("run " + run + ", call " + calls + ": " + NAMES[name] + " " + a + " " + b + " " + c + " " + d, both[0], both[1]);
        }
    }

    private long[] foretold(int name, int p, int b, int c, int d) {
        switch (name) {
            case 15: return two(real.carries(), model.carries());
            case 16: return two(real.gain(p), model.gain(p));
            case 17: return two(real.settles(), model.settles());
            case 18: return two(real.best(p, b, c), model.best(p, b, c));
            case 19: return two(real.put(p, b), model.put(p, b));
            case 20: return two(real.turn(p, b), model.turn(p, b));
            case 21: return two(real.bought(p), model.bought(p));
            case 22: return two(real.fair(p), model.fair(p));
            case 23: return two(real.hour(p), model.hour(p));
            case 24: return two(real.row(p, b, c, d), model.row(p, b, c, d));
            case 25: return two(real.forget(), model.forget());
            case 26: return two(real.judge(), model.judge());
            case 27: return two(real.arms(p, b), model.arms(p, b));
            default: return two(real.count(p), model.count(p));
        }
    }

    private static long[] two(long a, long b) {
        return new long[] {a, b};
    }
}
