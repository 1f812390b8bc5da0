/** What the tests share: answers that are due, and texts written into a hall. */
final class Checks {
    private int asked;
    private int wrong;

    void due(String call, long got, long want) {
        asked++;
        if (got != want) {
            wrong++;
            System.out.println(call + " answered " + got + ", due is " + want);
        }
    }

    void isTrue(String what, boolean holds) {
        due(what, holds ? 1 : 0, 1);
    }

    /** Ends with exit code 1 if an answer was not the one that was due. */
    void end(String name) {
        System.out.println(name + ": " + asked + " answers, " + wrong + " not as due");
        if (wrong != 0 || asked == 0) {
            System.exit(1);
        }
    }

    /** Writes a text eight bytes at a time: what the last call answered. */
    static int write(RaisedArms hall, String text) {
        int answer = 0;
        for (int from = 0; from < text.length(); from += 8) {
            int n = Math.min(8, text.length() - from);
            long bytes = 0;
            for (int i = 0; i < n; i++) {
                bytes |= (long) (text.charAt(from + i) & 255) << 8 * i;
            }
            answer = hall.write(bytes, n);
        }
        return answer;
    }

    /** A new hall in which the texts were done, one behind the other. */
    static RaisedArms hall(String... texts) {
        RaisedArms hall = new RaisedArms();
        for (String text : texts) {
            write(hall, text);
            if (hall.hall() < 0) {
                throw new IllegalStateException("the text has a fault: " + text);
            }
        }
        return hall;
    }

    /** Where a text has its FAULT in a hall. */
    static int fault(RaisedArms hall, String text) {
        hall.erase();
        write(hall, text);
        int place = hall.fault();
        hall.erase();
        return place;
    }
}
