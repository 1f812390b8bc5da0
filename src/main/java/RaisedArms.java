/**
 * A hall in which one votes by holding up an arm, and each second counts.
 * The document ../shared/DOC.md says what every call answers; README.md says how to use it.
 */
public final class RaisedArms {
    public static final int NONE = -1, UNKNOWN = -2, OUTSIDE = -3, NOT = -4, FULL = -5;

    private static final int MOST_PEOPLE = 6, MOST_MATTERS = 5, MOST_BYTES = 200, MOST_LINES = 12;
    private static final int MOST_KEPT = 2, MOST_ROWS = 8, MOST_FORESEEN = 3;
    private static final int MOST_ARM = 30, MOST_LEFT = 99, MOST_TOLD = 99, MOST_COUNTS = 9, MOST_WORTH = 9;
    private static final int MOST_BOUGHT = 200, MOST_SUM = 999, FIRST_HOLD = 2;
    /** A WORTH is answered with this much more, so that it is never mistaken for a refusal. */
    private static final int WORTH_SHIFT = 100;

    private static final int PLAIN = 0, WATCH = 1, STOUT = 2, TOLD = 3;
    /** The words of the LINES: those of people have the numbers of their KINDS, 0 .. 3. */
    private static final int MATTER = 4, FOR = 5, AGAINST = 6, COUNTS = 7, HOLD = 8, HALL = 9, WORDS = 10;
    /** What a result tells of a MATTER that was put. */
    private static final int FOR_IT = 0, AGAINST_IT = 1, CARRIED = 2, SECONDS = 3, RESULTS = 4;

    private final Text text = new Text();
    private final Evening evening = new Evening();
    private final Evening[] kept = {new Evening(), new Evening()};
    private final boolean[] isKept = new boolean[MOST_KEPT];
    private final Hall hall;
    private final Vote vote;
    private final Foresight foresight;

    public RaisedArms() {
        Hall newHall = new Hall();
        Vote newVote = new Vote(newHall);
        hall = newHall;
        vote = newVote;
        foresight = new Foresight(newHall, newVote);
    }

    // ---- what is told

    public int write(long bytes, int n) {
        if (n < 1 || n > 8) {
            return OUTSIDE;
        }
        return text.add(bytes, n);
    }

    public int erase() {
        return text.clear();
    }

    public int fault() {
        return text.read(hall.people.size, hall.matters);
    }

    public int hall() {
        if (text.read(hall.people.size, hall.matters) != NONE) {
            return NOT;
        }
        int lines = text.lines;
        for (int line = 0; line < lines; line++) {
            hall.apply(text, line);
        }
        text.clear();
        beginEvening();
        return lines;
    }

    public int person(int person, int what) {
        if (!isPerson(person)) {
            return UNKNOWN;
        }
        switch (what) {
            case 0: return hall.people.kind[person];
            case 1: return hall.people.arm[person];
            case 2: return hall.people.rest[person];
            case 3: return hall.people.counts[person];
            case 4: return evening.left[person];
            default: return OUTSIDE;
        }
    }

    public int worth(int person, int matter) {
        if (!isPerson(person) || !isMatter(matter)) {
            return UNKNOWN;
        }
        return hall.worthTo(person, matter) + WORTH_SHIFT;
    }

    public int as(int person, int kind, int matter) {
        if (!isPerson(person) || !isMatter(matter)) {
            return UNKNOWN;
        }
        if (kind < 0 || kind > 4) {
            return OUTSIDE;
        }
        if (!vote.voterOf(hall.people.kind[person]).isOf(kind)) {
            return NOT;
        }
        return vote.wanted(evening, person, matter);
    }

    public int tell(int person, int matter, int seconds) {
        if (!isPerson(person) || !isMatter(matter)) {
            return UNKNOWN;
        }
        if (seconds < 0 || seconds > MOST_TOLD) {
            return OUTSIDE;
        }
        if (hall.people.kind[person] != TOLD) {
            return NOT;
        }
        int place = place(person, matter);
        int ahead = evening.told[place];
        evening.told[place] = seconds;
        return ahead;
    }

    // ---- an evening

    public int order(int i) {
        if (i < 0) {
            return OUTSIDE;
        }
        return i < evening.matters ? evening.order[i] : NONE;
    }

    public int next(int matter) {
        if (!isMatter(matter)) {
            return UNKNOWN;
        }
        if (evening.wasPut(matter)) {
            return NOT;
        }
        evening.bring(matter);
        return evening.toCome();
    }

    public int vote() {
        if (evening.toCome() == 0) {
            return NOT;
        }
        return vote.run(evening);
    }

    public int result(int matter, int what) {
        if (!isMatter(matter)) {
            return UNKNOWN;
        }
        if (what < 0 || what >= RESULTS) {
            return OUTSIDE;
        }
        return evening.wasPut(matter) ? evening.resultOf(matter, what) : NOT;
    }

    public int held(int person, int matter) {
        if (!isPerson(person) || !isMatter(matter)) {
            return UNKNOWN;
        }
        return evening.wasPut(matter) ? evening.held[place(person, matter)] : NOT;
    }

    public int keep(int k) {
        if (k < 0 || k >= MOST_KEPT) {
            return UNKNOWN;
        }
        kept[k].copyFrom(evening);
        isKept[k] = true;
        return evening.puts;
    }

    public int back(int k) {
        if (k < 0 || k >= MOST_KEPT) {
            return UNKNOWN;
        }
        if (!isKept[k]) {
            return NOT;
        }
        evening.copyFrom(kept[k]);
        return evening.puts;
    }

    // ---- foretold

    public int carries() {
        return foresight.carriedOf(evening);
    }

    public int gain(int person) {
        if (!isPerson(person)) {
            return UNKNOWN;
        }
        return hall.worthOfSet(person, foresight.carriedOf(evening)) + WORTH_SHIFT;
    }

    public int settles() {
        if (evening.toCome() == 0) {
            return NOT;
        }
        return foresight.settledAhead(evening);
    }

    public int best(int person, int k, int i) {
        if (!isPerson(person)) {
            return UNKNOWN;
        }
        if (k < 1 || k > MOST_FORESEEN || i < NONE) {
            return OUTSIDE;
        }
        int many = Math.min(k, evening.toCome());
        if (many == 0) {
            return NOT;
        }
        if (i >= many) {
            return NONE;
        }
        foresight.seekBest(evening, person, many);
        return i == NONE ? foresight.bestWorth + WORTH_SHIFT : foresight.bestSeconds[i];
    }

    public int put(int set, int i) {
        if ((set & ~evening.setToCome()) != 0 || i < 0) {
            return OUTSIDE;
        }
        int many = evening.toCome();
        if (i >= many || !foresight.seekOrder(evening, set)) {
            return NONE;
        }
        return foresight.foundOrder[evening.matters - many + i];
    }

    public int turn(int person, int matter) {
        if (!isPerson(person) || !isMatter(matter)) {
            return UNKNOWN;
        }
        if (evening.wasPut(matter)) {
            return NOT;
        }
        return foresight.turningCounts(evening, person, matter);
    }

    public int bought(int matter) {
        if (!isMatter(matter)) {
            return UNKNOWN;
        }
        if (evening.wasPut(matter)) {
            return NOT;
        }
        return foresight.boughtSeconds(evening, matter);
    }

    public int fair(int person) {
        if (person != NONE && !isPerson(person)) {
            return UNKNOWN;
        }
        if (hall.people.size == 0) {
            return NOT;
        }
        foresight.seekFair(hall.people);
        return person == NONE ? foresight.fairSpread : foresight.fairCounts[person];
    }

    public int hour(int h) {
        if (h < 0 || h > MOST_LEFT) {
            return OUTSIDE;
        }
        return foresight.carriedInHour(evening, h);
    }

    // ---- counts told, arms seen

    public int row(int matter, int forIt, int against, int carried) {
        if (!isMatter(matter)) {
            return UNKNOWN;
        }
        if (forIt < 0 || forIt > MOST_SUM || against < 0 || against > MOST_SUM || carried < 0 || carried > 1) {
            return OUTSIDE;
        }
        return hall.addRow(matter, forIt, against, carried);
    }

    public int forget() {
        return hall.clearRows();
    }

    public int judge() {
        return hall.firstWrongRow();
    }

    public int arms(int person, int s) {
        if (!isPerson(person)) {
            return UNKNOWN;
        }
        if (s < 0 || s > MOST_ARM) {
            return OUTSIDE;
        }
        int worths = 0;
        for (int worth = 0; worth <= MOST_WORTH; worth++) {
            if (Math.min(hall.hold * worth, evening.left[person]) == s) {
                worths |= 1 << worth;
            }
        }
        return worths;
    }

    public int count(int what) {
        switch (what) {
            case 0: return hall.people.size;
            case 1: return hall.matters;
            case 2: return hall.hold;
            case 3: return evening.puts;
            case 4: return hall.rows;
            case 5: return text.length;
            default: return OUTSIDE;
        }
    }

    private boolean isPerson(int person) {
        return person >= 0 && person < hall.people.size;
    }

    private boolean isMatter(int matter) {
        return matter >= 0 && matter < hall.matters;
    }

    private void beginEvening() {
        evening.begin(hall);
        hall.clearRows();
        for (int k = 0; k < MOST_KEPT; k++) {
            isKept[k] = false;
        }
    }

    /** Where rows that have one number for each person and MATTER have it. */
    private static int place(int person, int matter) {
        return person * MOST_MATTERS + matter;
    }

    private static boolean isCarried(int need, int forIt, int against) {
        return 10 * forIt > need * (forIt + against);
    }

    /** A KIND, and how one of it behaves: the kinds are over one another as these classes are. */
    private abstract static class Voter {
        /** How long one of the kind would hold of a MATTER of some WORTH (without sign), if that much were LEFT. */
        abstract int wish(int hold, int worth, int left, int told);

        boolean lowersWhenSettled() {
            return false;
        }

        /** Whether one is such as kind 0 VOTER, 1 PLAIN, 2 WATCH, 3 STOUT, 4 TOLD tells. */
        final boolean isOf(int kind) {
            switch (kind) {
                case 0: return true;
                case 1: return this instanceof Plain;
                case 2: return this instanceof Watch;
                case 3: return this instanceof Stout;
                case 4: return this instanceof Told;
                default: return false;
            }
        }
    }

    private static class Plain extends Voter {
        int wish(int hold, int worth, int left, int told) {
            return hold * worth;
        }
    }

    private static final class Watch extends Plain {
        boolean lowersWhenSettled() {
            return true;
        }
    }

    private static final class Stout extends Voter {
        int wish(int hold, int worth, int left, int told) {
            return left;
        }
    }

    private static final class Told extends Voter {
        int wish(int hold, int worth, int left, int told) {
            return told;
        }
    }

    /** Who is there. An evening has its own, since a foretelling may take them otherwise than they are. */
    private static final class People {
        final int[] kind = new int[MOST_PEOPLE];
        final int[] arm = new int[MOST_PEOPLE];
        final int[] rest = new int[MOST_PEOPLE];
        final int[] counts = new int[MOST_PEOPLE];
        int size;

        void copyFrom(People other) {
            System.arraycopy(other.kind, 0, kind, 0, MOST_PEOPLE);
            System.arraycopy(other.arm, 0, arm, 0, MOST_PEOPLE);
            System.arraycopy(other.rest, 0, rest, 0, MOST_PEOPLE);
            System.arraycopy(other.counts, 0, counts, 0, MOST_PEOPLE);
            size = other.size;
        }
    }

    /** What was told: people, MATTERS, what they are worth to whom, HOLD; and rows of COUNTS. */
    private static final class Hall {
        final People people = new People();
        final int[] need = new int[MOST_MATTERS];
        final int[] worth = new int[MOST_PEOPLE * MOST_MATTERS];
        int matters;
        int hold = FIRST_HOLD;
        private final int[] rowMatter = new int[MOST_ROWS];
        private final int[] rowFor = new int[MOST_ROWS];
        private final int[] rowAgainst = new int[MOST_ROWS];
        private final int[] rowCarried = new int[MOST_ROWS];
        int rows;

        int worthTo(int person, int matter) {
            return worth[place(person, matter)];
        }

        int worthOfSet(int person, int set) {
            int sum = 0;
            for (int matter = 0; matter < matters; matter++) {
                if ((set >> matter & 1) == 1) {
                    sum += worthTo(person, matter);
                }
            }
            return sum;
        }

        /** Does a line of a text that was read to its end without a FAULT. */
        void apply(Text text, int line) {
            int first = text.numberOf(line, 0);
            int second = text.numberOf(line, 1);
            int third = text.numberOf(line, 2);
            switch (text.words[line]) {
                case HALL: leave(); break;
                case MATTER: addMatter(first); break;
                case FOR: worth[place(first, second)] = third; break;
                case AGAINST: worth[place(first, second)] = -third; break;
                case COUNTS: people.counts[first] = second; break;
                case HOLD: hold = first; break;
                default: addPerson(text.words[line], first, second); break;
            }
        }

        private void leave() {
            people.size = 0;
            matters = 0;
            hold = FIRST_HOLD;
            // Whoever comes now, and whatever MATTER, has WORTH 0 at first.
            for (int i = 0; i < worth.length; i++) {
                worth[i] = 0;
            }
        }

        private void addPerson(int kind, int arm, int rest) {
            if (people.size >= MOST_PEOPLE) {
                return;
            }
            int person = people.size;
            people.kind[person] = kind;
            people.arm[person] = arm;
            people.rest[person] = rest;
            people.counts[person] = 1;
            people.size++;
        }

        private void addMatter(int needed) {
            if (matters >= MOST_MATTERS) {
                return;
            }
            need[matters] = needed;
            matters++;
        }

        int addRow(int matter, int forIt, int against, int carried) {
            if (rows >= MOST_ROWS) {
                return FULL;
            }
            rowMatter[rows] = matter;
            rowFor[rows] = forIt;
            rowAgainst[rows] = against;
            rowCarried[rows] = carried;
            rows++;
            return rows;
        }

        int clearRows() {
            int had = rows;
            rows = 0;
            return had;
        }

        int firstWrongRow() {
            for (int i = 0; i < rows; i++) {
                boolean isDue = isCarried(need[rowMatter[i]], rowFor[i], rowAgainst[i]);
                if (isDue != (rowCarried[i] == 1)) {
                    return i;
                }
            }
            return NONE;
        }
    }

    /** THE TEXT, and what its LINES say as far as it was read. */
    private static final class Text {
        private static final int BLANK = 32, SEMICOLON = 59, MOST_NUMBERS = 3, MOST_DIGITS = 2;
        private static final int LETTER = 0, DIGIT = 1, OTHER = 2;

        private final int[] bytes = new int[MOST_BYTES];
        int length;
        final int[] words = new int[MOST_LINES];
        private final int[] numbers = new int[MOST_LINES * MOST_NUMBERS];
        int lines;
        /** How many people and MATTERS there are behind the LINES that were read. */
        private int people;
        private int matters;
        /** The TOKEN at hand has the bytes start .. end - 1; none at the end of THE TEXT. */
        private int start;
        private int end;

        int add(long more, int n) {
            if (length + n > MOST_BYTES) {
                return FULL;
            }
            for (int i = 0; i < n; i++) {
                bytes[length + i] = (int) (more >> 8 * i & 255);
            }
            length += n;
            return length;
        }

        int clear() {
            int had = length;
            length = 0;
            return had;
        }

        int numberOf(int line, int i) {
            return numbers[line * MOST_NUMBERS + i];
        }

        /** Reads to the first FAULT, in a hall of so many people and MATTERS: its place, or NONE. */
        int read(int peopleAhead, int mattersAhead) {
            people = peopleAhead;
            matters = mattersAhead;
            end = 0;
            for (int line = 0; line < MOST_LINES; line++) {
                if (!readLine(line)) {
                    return start;
                }
                lines = line + 1;
                step();
                if (start == length) {
                    return NONE;
                }
                if (bytes[start] != SEMICOLON) {
                    return start;
                }
            }
            // A line more than may be: the ; ahead of it cannot stand there.
            return start;
        }

        private boolean readLine(int line) {
            step();
            int word = wordAtHand();
            if (word == NONE || word <= TOLD && people == MOST_PEOPLE || word == MATTER && matters == MOST_MATTERS) {
                return false;
            }
            words[line] = word;
            int many = numbersOf(word);
            for (int i = 0; i < many; i++) {
                step();
                int number = numberAtHand();
                if (number < leastOf(word, i) || number > mostOf(word, i)) {
                    return false;
                }
                numbers[line * MOST_NUMBERS + i] = number;
            }
            countWord(word);
            return true;
        }

        private void countWord(int word) {
            if (word == HALL) {
                people = 0;
                matters = 0;
            } else if (word == MATTER) {
                matters++;
            } else if (word <= TOLD) {
                people++;
            }
        }

        /** Goes to the next TOKEN, over the blanks between. */
        private void step() {
            start = end;
            while (start < length && bytes[start] == BLANK) {
                start++;
            }
            end = start;
            if (start == length) {
                return;
            }
            int sort = sortOf(bytes[start]);
            end++;
            while (end < length && sort != OTHER && sortOf(bytes[end]) == sort) {
                end++;
            }
        }

        private static int sortOf(int sign) {
            if (sign >= 'a' && sign <= 'z') {
                return LETTER;
            }
            return sign >= '0' && sign <= '9' ? DIGIT : OTHER;
        }

        private int wordAtHand() {
            for (int word = 0; word < WORDS; word++) {
                if (isAtHand(spelt(word))) {
                    return word;
                }
            }
            return NONE;
        }

        private boolean isAtHand(String name) {
            if (end - start != name.length()) {
                return false;
            }
            for (int i = 0; i < name.length(); i++) {
                if (bytes[start + i] != name.charAt(i)) {
                    return false;
                }
            }
            return true;
        }

        /** The number at hand; NONE, which is below all bounds: it is no number, or has too many digits. */
        private int numberAtHand() {
            if (start == length || sortOf(bytes[start]) != DIGIT || end - start > MOST_DIGITS) {
                return NONE;
            }
            int number = 0;
            for (int i = start; i < end; i++) {
                number = 10 * number + bytes[i] - '0';
            }
            return number;
        }

        private static String spelt(int word) {
            switch (word) {
                case PLAIN: return "plain";
                case WATCH: return "watch";
                case STOUT: return "stout";
                case TOLD: return "told";
                case MATTER: return "matter";
                case FOR: return "for";
                case AGAINST: return "against";
                case COUNTS: return "counts";
                case HOLD: return "hold";
                default: return "hall";
            }
        }

        private static int numbersOf(int word) {
            switch (word) {
                case HALL: return 0;
                case MATTER: case HOLD: return 1;
                case FOR: case AGAINST: return 3;
                default: return 2;
            }
        }

        private static int leastOf(int word, int i) {
            switch (word) {
                case MATTER: case HOLD: return 1;
                case COUNTS: return i == 0 ? 0 : 1;
                default: return 0;
            }
        }

        private int mostOf(int word, int i) {
            switch (word) {
                case MATTER: case HOLD: return 9;
                case COUNTS: return i == 0 ? people - 1 : MOST_COUNTS;
                case FOR: case AGAINST: return i == 0 ? people - 1 : i == 1 ? matters - 1 : MOST_WORTH;
                default: return i == 0 ? MOST_ARM : 9;
            }
        }
    }

    /** AN EVENING as far as it has come, or as it is taken to be in a foretelling. */
    private static final class Evening {
        final People people = new People();
        /** All MATTERS: those that were put stand first, puts of them. */
        final int[] order = new int[MOST_MATTERS];
        final int[] left = new int[MOST_PEOPLE];
        final int[] told = new int[MOST_PEOPLE * MOST_MATTERS];
        final int[] held = new int[MOST_PEOPLE * MOST_MATTERS];
        final int[] results = new int[MOST_MATTERS * RESULTS];
        int matters;
        int puts;

        void begin(Hall hall) {
            people.copyFrom(hall.people);
            matters = hall.matters;
            puts = 0;
            for (int i = 0; i < MOST_MATTERS; i++) {
                order[i] = i;
            }
            System.arraycopy(people.arm, 0, left, 0, MOST_PEOPLE);
            for (int i = 0; i < told.length; i++) {
                told[i] = 0;
            }
        }

        void copyFrom(Evening other) {
            people.copyFrom(other.people);
            System.arraycopy(other.order, 0, order, 0, order.length);
            System.arraycopy(other.left, 0, left, 0, left.length);
            System.arraycopy(other.told, 0, told, 0, told.length);
            System.arraycopy(other.held, 0, held, 0, held.length);
            System.arraycopy(other.results, 0, results, 0, results.length);
            matters = other.matters;
            puts = other.puts;
        }

        int toCome() {
            return matters - puts;
        }

        int setToCome() {
            int set = 0;
            for (int i = puts; i < matters; i++) {
                set |= 1 << order[i];
            }
            return set;
        }

        boolean wasPut(int matter) {
            for (int i = 0; i < puts; i++) {
                if (order[i] == matter) {
                    return true;
                }
            }
            return false;
        }

        /** Lets a MATTER that is to come be the next one; those ahead of it move behind it. */
        void bring(int matter) {
            int ahead = matter;
            for (int i = puts; i < matters; i++) {
                int here = order[i];
                order[i] = ahead;
                ahead = here;
                if (here == matter) {
                    return;
                }
            }
        }

        int resultOf(int matter, int what) {
            return results[matter * RESULTS + what];
        }

        void setResult(int matter, int what, int number) {
            results[matter * RESULTS + what] = number;
        }
    }

    /** A VOTE, second by second. */
    private static final class Vote {
        private final Hall hall;
        private final Voter plain = new Plain();
        private final Voter watch = new Watch();
        private final Voter stout = new Stout();
        private final Voter told = new Told();
        private final int[] wants = new int[MOST_PEOPLE];
        private final int[] held = new int[MOST_PEOPLE];
        /** Whose arm was up in the second ahead; ahead of the first one: who WANT to hold. */
        private final boolean[] isUp = new boolean[MOST_PEOPLE];
        private final boolean[] isFor = new boolean[MOST_PEOPLE];
        private int matter;
        private int forIt;
        private int against;
        private int seconds;
        /** The second ahead of which the VOTE was SETTLED first; NONE. */
        int settledAhead;

        Vote(Hall hall) {
            this.hall = hall;
        }

        Voter voterOf(int kind) {
            switch (kind) {
                case WATCH: return watch;
                case STOUT: return stout;
                case TOLD: return told;
                default: return plain;
            }
        }

        /** How long one WANTS to hold of a MATTER, if it were put now. */
        int wanted(Evening evening, int person, int asked) {
            int place = place(person, asked);
            int worth = hall.worth[place];
            if (worth == 0) {
                return 0;
            }
            int left = evening.left[person];
            Voter voter = voterOf(evening.people.kind[person]);
            return Math.min(left, voter.wish(hall.hold, Math.abs(worth), left, evening.told[place]));
        }

        /**
         * Whether the MATTER that comes next would be CARRIED: as if all held what they WANT, for WATCH ones
         * lower their arms only when that can change nothing any more. Cheaper than putting it.
         */
        boolean isCarriedNext(Evening evening) {
            int next = evening.order[evening.puts];
            int sumFor = 0;
            int sumAgainst = 0;
            for (int person = 0; person < evening.people.size; person++) {
                int sum = evening.people.counts[person] * wanted(evening, person, next);
                if (hall.worthTo(person, next) > 0) {
                    sumFor += sum;
                } else {
                    sumAgainst += sum;
                }
            }
            return isCarried(hall.need[next], sumFor, sumAgainst);
        }

        /** Puts the MATTER that comes next, if there is one: 1 CARRIED, 0. */
        int run(Evening evening) {
            if (evening.toCome() <= 0) {
                return 0;
            }
            begin(evening);
            // One second more than an arm can be up: in that one at the latest none is.
            for (int second = 1; second <= MOST_LEFT + 1; second++) {
                if (settledAhead == NONE && isSettled(evening)) {
                    settledAhead = second;
                }
                if (!lowerArms(evening.people)) {
                    break;
                }
                countArms(evening.people);
                seconds = second;
            }
            return close(evening);
        }

        private void begin(Evening evening) {
            matter = evening.order[evening.puts];
            forIt = 0;
            against = 0;
            seconds = 0;
            settledAhead = NONE;
            for (int person = 0; person < evening.people.size; person++) {
                wants[person] = wanted(evening, person, matter);
                held[person] = 0;
                isUp[person] = wants[person] > 0;
                isFor[person] = hall.worthTo(person, matter) > 0;
            }
        }

        private boolean isSettled(Evening evening) {
            int moreFor = 0;
            int moreAgainst = 0;
            for (int person = 0; person < evening.people.size; person++) {
                if (isUp[person]) {
                    int more = evening.people.counts[person] * (evening.left[person] - held[person]);
                    if (isFor[person]) {
                        moreFor += more;
                    } else {
                        moreAgainst += more;
                    }
                }
            }
            int need = hall.need[matter];
            return isCarried(need, forIt, against + moreAgainst) || !isCarried(need, forIt + moreFor, against);
        }

        /** Lowers the arms that are up no more in the second to come: whether one still is. */
        private boolean lowerArms(People people) {
            boolean isSome = false;
            for (int person = 0; person < people.size; person++) {
                if (isUp[person]) {
                    boolean lowers = settledAhead != NONE && voterOf(people.kind[person]).lowersWhenSettled();
                    isUp[person] = held[person] < wants[person] && !lowers;
                    isSome = isSome || isUp[person];
                }
            }
            return isSome;
        }

        private void countArms(People people) {
            for (int person = 0; person < people.size; person++) {
                if (isUp[person]) {
                    held[person]++;
                    if (isFor[person]) {
                        forIt += people.counts[person];
                    } else {
                        against += people.counts[person];
                    }
                }
            }
        }

        private int close(Evening evening) {
            People people = evening.people;
            for (int person = 0; person < people.size; person++) {
                evening.held[place(person, matter)] = held[person];
                int rested = evening.left[person] - held[person] + people.rest[person];
                evening.left[person] = Math.min(rested, people.arm[person]);
            }
            int carried = isCarried(hall.need[matter], forIt, against) ? 1 : 0;
            evening.setResult(matter, FOR_IT, forIt);
            evening.setResult(matter, AGAINST_IT, against);
            evening.setResult(matter, CARRIED, carried);
            evening.setResult(matter, SECONDS, seconds);
            evening.puts++;
            return carried;
        }
    }

    /** What is foretold: always on evenings of its own, so that nothing changes. */
    private static final class Foresight {
        private final Hall hall;
        private final Vote vote;
        /** The evening that is tried, behind each MATTER that was put in it. */
        private final Evening[] tried = new Evening[MOST_MATTERS + 1];
        final int[] foundOrder = new int[MOST_MATTERS];
        private final int[] triedSeconds = new int[MOST_FORESEEN];
        final int[] bestSeconds = new int[MOST_FORESEEN];
        int bestWorth;
        private int bestSum;
        private final int[] triedCounts = new int[MOST_PEOPLE];
        final int[] fairCounts = new int[MOST_PEOPLE];
        int fairSpread;
        private int fairLeast;
        /** Whether the search at hand has found anything yet. */
        private boolean isFound;

        Foresight(Hall hall, Vote vote) {
            this.hall = hall;
            this.vote = vote;
            for (int i = 0; i <= MOST_MATTERS; i++) {
                tried[i] = new Evening();
            }
        }

        private Evening startFrom(Evening now) {
            tried[0].copyFrom(now);
            return tried[0];
        }

        int carriedOf(Evening now) {
            return carriedToEnd(startFrom(now));
        }

        private int carriedToEnd(Evening trial) {
            int set = 0;
            for (int i = trial.puts; i < trial.matters; i++) {
                set |= vote.run(trial) << trial.order[i];
            }
            return set;
        }

        int settledAhead(Evening now) {
            vote.run(startFrom(now));
            return vote.settledAhead;
        }

        int carriedInHour(Evening now, int h) {
            Evening trial = startFrom(now);
            trial.puts = 0;
            for (int person = 0; person < trial.people.size; person++) {
                trial.left[person] = h;
                trial.people.rest[person] = 0;
                trial.people.arm[person] = h;
            }
            return carriedToEnd(trial);
        }

        int turningCounts(Evening now, int person, int matter) {
            for (int counts = 1; counts <= MOST_COUNTS; counts++) {
                Evening trial = startFrom(now);
                trial.people.counts[person] = counts;
                putTill(trial, matter);
                if (trial.resultOf(matter, CARRIED) == 1) {
                    return counts;
                }
            }
            return NONE;
        }

        int boughtSeconds(Evening now, int matter) {
            Evening trial = startFrom(now);
            putTill(trial, matter);
            int forIt = trial.resultOf(matter, FOR_IT);
            int against = trial.resultOf(matter, AGAINST_IT);
            for (int more = 0; more <= MOST_BOUGHT; more++) {
                if (isCarried(hall.need[matter], forIt + more, against)) {
                    return more;
                }
            }
            return NONE;
        }

        /** Puts MATTERS in ORDER, to one that is to come. */
        private void putTill(Evening trial, int matter) {
            for (int i = trial.puts; i < trial.matters; i++) {
                vote.run(trial);
                if (trial.order[i] == matter) {
                    return;
                }
            }
        }

        boolean seekOrder(Evening now, int set) {
            startFrom(now);
            return seekOrderFrom(0, set);
        }

        /** Tries the MATTERS by numbers at each place, so that the first ORDER found is the first one. */
        private boolean seekOrderFrom(int depth, int set) {
            Evening trial = tried[depth];
            if (trial.toCome() == 0 || depth == MOST_MATTERS) {
                System.arraycopy(trial.order, 0, foundOrder, 0, MOST_MATTERS);
                return true;
            }
            Evening further = tried[depth + 1];
            for (int matter = 0; matter < trial.matters; matter++) {
                if (!trial.wasPut(matter)) {
                    further.copyFrom(trial);
                    further.bring(matter);
                    boolean isWell = vote.run(further) == 1 || (set >> matter & 1) == 0;
                    if (isWell && seekOrderFrom(depth + 1, set)) {
                        return true;
                    }
                }
            }
            return false;
        }

        void seekBest(Evening now, int person, int many) {
            startFrom(now).people.kind[person] = TOLD;
            isFound = false;
            seekBestFrom(0, person, many, 0, 0);
        }

        /** Tries the fewest seconds of each MATTER first: of equally good rows the first found stays. */
        private void seekBestFrom(int depth, int person, int many, int worth, int sum) {
            Evening trial = tried[depth];
            int hope = worth + hopeFor(trial, person, many - depth);
            if (!canBeBetter(hope, sum)) {
                return;
            }
            int worthHere = hall.worthTo(person, trial.order[trial.puts]);
            // Who is neither FOR it nor AGAINST holds nothing, whatever he is told.
            int most = worthHere == 0 ? 0 : trial.left[person];
            if (depth == many - 1 || depth == MOST_FORESEEN - 1) {
                tryLast(depth, person, most, worth, sum);
                return;
            }
            for (int seconds = 0; seconds <= most && canBeBetter(hope, sum + seconds); seconds++) {
                int carried = putWith(depth, person, seconds);
                seekBestFrom(depth + 1, person, many, worth + carried * worthHere, sum + seconds);
            }
        }

        /** The last MATTER: no seconds of it, or the fewest by which it comes otherwise, if there are such. */
        private void tryLast(int depth, int person, int most, int worth, int sum) {
            int worthHere = hall.worthTo(person, tried[depth].order[tried[depth].puts]);
            boolean isCarriedWithout = isCarriedWith(depth, person, 0);
            noteIfBetter(isCarriedWithout ? worth + worthHere : worth, sum);
            // Seconds FOR never hinder, seconds AGAINST never help: if all change nothing, fewer do not either.
            if (isCarriedWith(depth, person, most) == isCarriedWithout) {
                return;
            }
            int seconds = 1;
            while (seconds < most && isCarriedWith(depth, person, seconds) == isCarriedWithout) {
                seconds++;
            }
            triedSeconds[depth] = seconds;
            noteIfBetter(isCarriedWithout ? worth : worth + worthHere, sum + seconds);
        }

        /** Whether the next MATTER of the evening tried so far would be CARRIED, one holding so many seconds of it. */
        private boolean isCarriedWith(int depth, int person, int seconds) {
            tellNext(depth, person, seconds);
            return vote.isCarriedNext(tried[depth]);
        }

        /** Puts it, one holding so many seconds of it: 1 CARRIED, 0. */
        private int putWith(int depth, int person, int seconds) {
            tellNext(depth, person, seconds);
            tried[depth + 1].copyFrom(tried[depth]);
            return vote.run(tried[depth + 1]);
        }

        private void tellNext(int depth, int person, int seconds) {
            Evening trial = tried[depth];
            trial.told[place(person, trial.order[trial.puts])] = seconds;
            triedSeconds[depth] = seconds;
        }

        /** More than this no seconds can bring of the next MATTERS. */
        private int hopeFor(Evening trial, int person, int many) {
            int hope = 0;
            int end = Math.min(trial.puts + many, trial.matters);
            for (int i = trial.puts; i < end; i++) {
                hope += Math.max(0, hall.worthTo(person, trial.order[i]));
            }
            return hope;
        }

        private boolean canBeBetter(int worth, int sum) {
            return !isFound || worth > bestWorth || worth == bestWorth && sum < bestSum;
        }

        private void noteIfBetter(int worth, int sum) {
            if (canBeBetter(worth, sum)) {
                isFound = true;
                bestWorth = worth;
                bestSum = sum;
                System.arraycopy(triedSeconds, 0, bestSeconds, 0, MOST_FORESEEN);
            }
        }

        /**
         * The least of COUNTS times ARM is one of each one's nine: for each of these it is enough to look
         * at the row of fewest COUNTS that reach it, as no row does better, or comes first, with that least.
         * Such a row has nowhere fewer COUNTS if it has more to reach: of several, the first reaches the least.
         */
        void seekFair(People people) {
            isFound = false;
            for (int person = 0; person < people.size; person++) {
                for (int counts = 1; counts <= MOST_COUNTS; counts++) {
                    tryLeast(people, counts * people.arm[person]);
                }
            }
        }

        private void tryLeast(People people, int least) {
            int greatest = least;
            for (int person = 0; person < people.size; person++) {
                int counts = countsToReach(people.arm[person], least);
                if (counts == NONE) {
                    return;
                }
                triedCounts[person] = counts;
                greatest = Math.max(greatest, counts * people.arm[person]);
            }
            int spread = greatest - least;
            if (!isFound || spread < fairSpread || spread == fairSpread && least < fairLeast) {
                isFound = true;
                fairSpread = spread;
                fairLeast = least;
                System.arraycopy(triedCounts, 0, fairCounts, 0, MOST_PEOPLE);
            }
        }

        private static int countsToReach(int arm, int least) {
            for (int counts = 1; counts <= MOST_COUNTS; counts++) {
                if (counts * arm >= least) {
                    return counts;
                }
            }
            return NONE;
        }
    }
}
