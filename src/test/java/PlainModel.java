import java.util.ArrayList;
import java.util.Arrays;
import java.util.List;

/**
 * The document read once more, word by word and without care for speed:
 * the searches go through everything there is, a vote looks at every second anew.
 */
final class PlainModel {
    private static final int NONE = -1, UNKNOWN = -2, OUTSIDE = -3, NOT = -4, FULL = -5;

    private static final class One {
        String kind;
        int arm;
        int rest;
        int counts = 1;
        int left;
        final int[] worth = new int[5];
        final int[] told = new int[5];

        One copy() {
            One one = new One();
            one.kind = kind;
            one.arm = arm;
            one.rest = rest;
            one.counts = counts;
            one.left = left;
            System.arraycopy(worth, 0, one.worth, 0, 5);
            System.arraycopy(told, 0, one.told, 0, 5);
            return one;
        }
    }

    private static final class State {
        List<One> people = new ArrayList<>();
        List<Integer> need = new ArrayList<>();
        int hold = 2;
        List<Integer> done = new ArrayList<>();
        List<Integer> coming = new ArrayList<>();
        int[][] results = new int[5][];
        int[][] held = new int[5][];
        int settled;
        boolean isUnbound;

        State copy() {
            State s = new State();
            for (One one : people) {
                s.people.add(one.copy());
            }
            s.need.addAll(need);
            s.hold = hold;
            s.done.addAll(done);
            s.coming.addAll(coming);
            s.results = results.clone();
            s.held = held.clone();
            s.isUnbound = isUnbound;
            return s;
        }

        int wants(One one, int matter) {
            int w = Math.abs(one.worth[matter]);
            if (w == 0) {
                return 0;
            }
            int wish;
            if (one.kind.equals("stout")) {
                wish = one.left;
            } else if (one.kind.equals("told")) {
                wish = one.told[matter];
            } else {
                wish = hold * w;
            }
            return wish > one.left ? one.left : wish;
        }

        boolean would(int matter, int f, int a) {
            return 10 * f > need.get(matter) * (f + a);
        }

        int vote() {
            int matter = coming.remove(0);
            done.add(matter);
            int n = people.size();
            int[] up = new int[n];
            List<boolean[]> seconds = new ArrayList<>();
            settled = NONE;
            int f = 0;
            int a = 0;
            while (true) {
                boolean isSettled = settledNow(matter, seconds, up, f, a);
                if (isSettled && settled == NONE) {
                    settled = seconds.size() + 1;
                }
                boolean[] now = new boolean[n];
                boolean some = false;
                for (int p = 0; p < n; p++) {
                    boolean before = seconds.isEmpty() || seconds.get(seconds.size() - 1)[p];
                    boolean lowers = isSettled && people.get(p).kind.equals("watch");
                    now[p] = before && up[p] < wants(people.get(p), matter) && !lowers;
                    some |= now[p];
                }
                if (!some) {
                    break;
                }
                for (int p = 0; p < n; p++) {
                    if (now[p]) {
                        up[p]++;
                        if (people.get(p).worth[matter] > 0) {
                            f += people.get(p).counts;
                        } else {
                            a += people.get(p).counts;
                        }
                    }
                }
                seconds.add(now);
            }
            for (int p = 0; p < n; p++) {
                One one = people.get(p);
                one.left = one.left - up[p] + (isUnbound ? 0 : one.rest);
                if (!isUnbound && one.left > one.arm) {
                    one.left = one.arm;
                }
            }
            int carried = would(matter, f, a) ? 1 : 0;
            results[matter] = new int[] {f, a, carried, seconds.size()};
            held[matter] = up;
            return carried;
        }

        private boolean settledNow(int matter, List<boolean[]> seconds, int[] up, int f, int a) {
            int moreF = 0;
            int moreA = 0;
            for (int p = 0; p < up.length; p++) {
                One one = people.get(p);
                boolean counts = seconds.isEmpty() ? wants(one, matter) > 0 : seconds.get(seconds.size() - 1)[p];
                int more = counts ? (one.left - up[p]) * one.counts : 0;
                moreF += one.worth[matter] > 0 ? more : 0;
                moreA += one.worth[matter] < 0 ? more : 0;
            }
            return would(matter, f, a + moreA) || !would(matter, f + moreF, a);
        }

        int carriedBits() {
            int bits = 0;
            while (!coming.isEmpty()) {
                int matter = coming.get(0);
                bits |= vote() << matter;
            }
            return bits;
        }
    }

    private State now = new State();
    private final State[] kept = new State[2];
    private final List<int[]> rows = new ArrayList<>();
    private String text = "";

    // ---- the text

    private static final class Token {
        final int at;
        final String word;

        Token(int at, String word) {
            this.at = at;
            this.word = word;
        }
    }

    private static List<Token> tokens(String text) {
        List<Token> list = new ArrayList<>();
        java.util.regex.Matcher m = java.util.regex.Pattern.compile("[a-z]+|[0-9]+|[^ ]", java.util.regex.Pattern.DOTALL).matcher(text);
        while (m.find()) {
            list.add(new Token(m.start(), m.group()));
        }
        list.add(new Token(text.length(), ""));
        return list;
    }

    /** Does the lines on s as far as there is no FAULT: {place or NONE, lines}. */
    private static int[] run(State s, String text) {
        List<Token> list = tokens(text);
        int i = 0;
        for (int lines = 1;; lines++) {
            Token t = list.get(i++);
            int[][] bounds = bounds(s, t.word);
            if (bounds == null) {
                return new int[] {t.at, lines};
            }
            int[] numbers = new int[3];
            for (int k = 0; k < bounds.length; k++) {
                Token u = list.get(i++);
                if (!u.word.matches("[0-9]{1,2}")) {
                    return new int[] {u.at, lines};
                }
                numbers[k] = Integer.parseInt(u.word);
                int[] b = t.word.equals("for") || t.word.equals("against") || t.word.equals("counts") ? bounds(s, t.word)[k] : bounds[k];
                if (numbers[k] < b[0] || numbers[k] > b[1]) {
                    return new int[] {u.at, lines};
                }
            }
            line(s, t.word, numbers);
            Token end = list.get(i++);
            if (end.word.isEmpty()) {
                return new int[] {NONE, lines};
            }
            if (!end.word.equals(";") || lines == 12) {
                return new int[] {end.at, lines};
            }
        }
    }

    private static int[][] bounds(State s, String word) {
        int[] who = {0, s.people.size() - 1};
        int[] what = {0, s.need.size() - 1};
        switch (word) {
            case "hall":
                return new int[][] {};
            case "plain": case "watch": case "stout": case "told":
                return s.people.size() < 6 ? new int[][] {{0, 30}, {0, 9}} : null;
            case "matter":
                return s.need.size() < 5 ? new int[][] {{1, 9}} : null;
            case "hold":
                return new int[][] {{1, 9}};
            case "for": case "against":
                return new int[][] {who, what, {0, 9}};
            case "counts":
                return new int[][] {who, {1, 9}};
            default:
                return null;
        }
    }

    private static void line(State s, String word, int[] n) {
        switch (word) {
            case "hall":
                s.people.clear();
                s.need.clear();
                s.hold = 2;
                break;
            case "matter":
                s.need.add(n[0]);
                break;
            case "hold":
                s.hold = n[0];
                break;
            case "for":
                s.people.get(n[0]).worth[n[1]] = n[2];
                break;
            case "against":
                s.people.get(n[0]).worth[n[1]] = -n[2];
                break;
            case "counts":
                s.people.get(n[0]).counts = n[1];
                break;
            default:
                One one = new One();
                one.kind = word;
                one.arm = n[0];
                one.rest = n[1];
                s.people.add(one);
                break;
        }
    }

    int write(long bytes, int n) {
        if (n < 1 || n > 8) {
            return OUTSIDE;
        }
        if (text.length() + n > 200) {
            return FULL;
        }
        for (int i = 0; i < n; i++) {
            text += (char) (bytes >> 8 * i & 255);
        }
        return text.length();
    }

    int erase() {
        int had = text.length();
        text = "";
        return had;
    }

    int fault() {
        return run(now.copy(), text)[0];
    }

    int hall() {
        State s = now.copy();
        int[] read = run(s, text);
        if (read[0] != NONE) {
            return NOT;
        }
        text = "";
        s.done.clear();
        s.coming.clear();
        for (int m = 0; m < s.need.size(); m++) {
            s.coming.add(m);
        }
        for (One one : s.people) {
            one.left = one.arm;
            Arrays.fill(one.told, 0);
        }
        now = s;
        rows.clear();
        Arrays.fill(kept, null);
        return read[1];
    }

    private boolean no(int person) {
        return person < 0 || person >= now.people.size();
    }

    private boolean noMatter(int matter) {
        return matter < 0 || matter >= now.need.size();
    }

    int person(int person, int what) {
        if (no(person)) {
            return UNKNOWN;
        }
        if (what < 0 || what > 4) {
            return OUTSIDE;
        }
        One one = now.people.get(person);
        return new int[] {List.of("plain", "watch", "stout", "told").indexOf(one.kind), one.arm, one.rest, one.counts, one.left}[what];
    }

    int worth(int person, int matter) {
        return no(person) || noMatter(matter) ? UNKNOWN : 100 + now.people.get(person).worth[matter];
    }

    int as(int person, int kind, int matter) {
        if (no(person) || noMatter(matter)) {
            return UNKNOWN;
        }
        if (kind < 0 || kind > 4) {
            return OUTSIDE;
        }
        String own = now.people.get(person).kind;
        List<String> over = List.of("plain watch stout told", "plain watch", "watch", "stout", "told");
        return over.get(kind).contains(own) ? now.wants(now.people.get(person), matter) : NOT;
    }

    int tell(int person, int matter, int seconds) {
        if (no(person) || noMatter(matter)) {
            return UNKNOWN;
        }
        if (seconds < 0 || seconds > 99) {
            return OUTSIDE;
        }
        One one = now.people.get(person);
        if (!one.kind.equals("told")) {
            return NOT;
        }
        int ahead = one.told[matter];
        one.told[matter] = seconds;
        return ahead;
    }

    // ---- an evening

    int order(int i) {
        List<Integer> all = new ArrayList<>(now.done);
        all.addAll(now.coming);
        return i < 0 ? OUTSIDE : i < all.size() ? all.get(i) : NONE;
    }

    int next(int matter) {
        if (noMatter(matter)) {
            return UNKNOWN;
        }
        if (!now.coming.remove((Integer) matter)) {
            return NOT;
        }
        now.coming.add(0, matter);
        return now.coming.size();
    }

    int vote() {
        return now.coming.isEmpty() ? NOT : now.vote();
    }

    int result(int matter, int what) {
        if (noMatter(matter)) {
            return UNKNOWN;
        }
        if (what < 0 || what > 3) {
            return OUTSIDE;
        }
        return now.done.contains(matter) ? now.results[matter][what] : NOT;
    }

    int held(int person, int matter) {
        if (no(person) || noMatter(matter)) {
            return UNKNOWN;
        }
        return now.done.contains(matter) ? now.held[matter][person] : NOT;
    }

    int keep(int k) {
        if (k != 0 && k != 1) {
            return UNKNOWN;
        }
        kept[k] = now.copy();
        return now.done.size();
    }

    int back(int k) {
        if (k != 0 && k != 1) {
            return UNKNOWN;
        }
        if (kept[k] == null) {
            return NOT;
        }
        now = kept[k].copy();
        return now.done.size();
    }

    // ---- foretold

    int carries() {
        return now.copy().carriedBits();
    }

    int gain(int person) {
        if (no(person)) {
            return UNKNOWN;
        }
        int bits = carries();
        int sum = 100;
        for (int m = 0; m < now.need.size(); m++) {
            sum += (bits >> m & 1) * now.people.get(person).worth[m];
        }
        return sum;
    }

    int settles() {
        if (now.coming.isEmpty()) {
            return NOT;
        }
        State s = now.copy();
        s.vote();
        return s.settled;
    }

    /** {WORTH, seconds together, seconds of each ..}; of all rows there are. */
    private int[] bestRow(State s, int person, int many) {
        if (many == 0) {
            return new int[] {0, 0};
        }
        int[] best = null;
        for (int x = 0; x <= s.people.get(person).left; x++) {
            State t = s.copy();
            int matter = t.coming.get(0);
            t.people.get(person).kind = "told";
            t.people.get(person).told[matter] = x;
            int won = t.vote() * t.people.get(person).worth[matter];
            int[] rest = bestRow(t, person, many - 1);
            if (best == null || won + rest[0] > best[0] || won + rest[0] == best[0] && x + rest[1] < best[1]) {
                best = new int[rest.length + 1];
                best[0] = won + rest[0];
                best[1] = x + rest[1];
                best[2] = x;
                System.arraycopy(rest, 2, best, 3, rest.length - 2);
            }
        }
        return best;
    }

    int best(int person, int k, int i) {
        if (no(person)) {
            return UNKNOWN;
        }
        if (k < 1 || k > 3 || i < -1) {
            return OUTSIDE;
        }
        if (now.coming.isEmpty()) {
            return NOT;
        }
        int[] best = bestRow(now.copy(), person, Math.min(k, now.coming.size()));
        return i == -1 ? best[0] + 100 : i + 2 < best.length ? best[i + 2] : NONE;
    }

    private static void orders(List<Integer> rest, List<Integer> begun, List<List<Integer>> all) {
        if (rest.isEmpty()) {
            all.add(begun);
        }
        for (int i = 0; i < rest.size(); i++) {
            List<Integer> less = new ArrayList<>(rest);
            List<Integer> more = new ArrayList<>(begun);
            more.add(less.remove(i));
            orders(less, more, all);
        }
    }

    int put(int set, int i) {
        int coming = 0;
        for (int m : now.coming) {
            coming |= 1 << m;
        }
        if ((set | coming) != coming || i < 0) {
            return OUTSIDE;
        }
        List<Integer> sorted = new ArrayList<>(now.coming);
        sorted.sort(null);
        List<List<Integer>> all = new ArrayList<>();
        orders(sorted, new ArrayList<>(), all);
        for (List<Integer> order : all) {
            State s = now.copy();
            s.coming = new ArrayList<>(order);
            if ((s.carriedBits() & set) == set) {
                return i < order.size() ? order.get(i) : NONE;
            }
        }
        return NONE;
    }

    private State behind(State s, int matter) {
        while (s.coming.contains(matter)) {
            s.vote();
        }
        return s;
    }

    int turn(int person, int matter) {
        if (no(person) || noMatter(matter)) {
            return UNKNOWN;
        }
        if (!now.coming.contains(matter)) {
            return NOT;
        }
        for (int c = 1; c <= 9; c++) {
            State s = now.copy();
            s.people.get(person).counts = c;
            if (behind(s, matter).results[matter][2] == 1) {
                return c;
            }
        }
        return NONE;
    }

    int bought(int matter) {
        if (noMatter(matter)) {
            return UNKNOWN;
        }
        if (!now.coming.contains(matter)) {
            return NOT;
        }
        int[] result = behind(now.copy(), matter).results[matter];
        int more = 0;
        while (more <= 200 && !now.would(matter, result[0] + more, result[1])) {
            more++;
        }
        return more > 200 ? NONE : more;
    }

    int fair(int person) {
        if (person != NONE && no(person)) {
            return UNKNOWN;
        }
        int n = now.people.size();
        if (n == 0) {
            return NOT;
        }
        int rows = 1;
        for (int p = 0; p < n; p++) {
            rows *= 9;
        }
        int least = Integer.MAX_VALUE;
        int[] best = null;
        int[] row = new int[n];
        for (int r = 0; r < rows; r++) {
            int rest = r;
            int low = Integer.MAX_VALUE;
            int high = 0;
            for (int p = n - 1; p >= 0; p--) {
                row[p] = rest % 9 + 1;
                rest /= 9;
                low = Math.min(low, row[p] * now.people.get(p).arm);
                high = Math.max(high, row[p] * now.people.get(p).arm);
            }
            if (high - low < least) {
                least = high - low;
                best = row.clone();
            }
        }
        return person == NONE ? least : best[person];
    }

    int hour(int h) {
        if (h < 0 || h > 99) {
            return OUTSIDE;
        }
        State s = now.copy();
        s.coming.addAll(0, s.done);
        s.done.clear();
        s.isUnbound = true;
        for (One one : s.people) {
            one.left = h;
        }
        return s.carriedBits();
    }

    // ---- counts told, arms seen

    int row(int matter, int forIt, int against, int carried) {
        if (noMatter(matter)) {
            return UNKNOWN;
        }
        if (forIt < 0 || forIt > 999 || against < 0 || against > 999 || carried != 0 && carried != 1) {
            return OUTSIDE;
        }
        if (rows.size() == 8) {
            return FULL;
        }
        rows.add(new int[] {matter, forIt, against, carried});
        return rows.size();
    }

    int forget() {
        int had = rows.size();
        rows.clear();
        return had;
    }

    int judge() {
        for (int[] row : rows) {
            if (now.would(row[0], row[1], row[2]) != (row[3] == 1)) {
                return rows.indexOf(row);
            }
        }
        return NONE;
    }

    int arms(int person, int s) {
        if (no(person)) {
            return UNKNOWN;
        }
        if (s < 0 || s > 30) {
            return OUTSIDE;
        }
        int bits = 0;
        for (int w = 0; w < 10; w++) {
            bits |= Math.min(w * now.hold, now.people.get(person).left) == s ? 1 << w : 0;
        }
        return bits;
    }

    int count(int what) {
        int[] all = {now.people.size(), now.need.size(), now.hold, now.done.size(), rows.size(), text.length()};
        return what < 0 || what > 5 ? OUTSIDE : all[what];
    }
}
