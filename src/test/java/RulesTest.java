import java.lang.reflect.Constructor;
import java.lang.reflect.Field;
import java.lang.reflect.Method;
import java.lang.reflect.Modifier;
import java.nio.file.Files;
import java.nio.file.Path;
import java.util.Map;
import java.util.Set;
import java.util.TreeMap;
import java.util.TreeSet;
import java.util.regex.Matcher;
import java.util.regex.Pattern;

/** The public face of the document, and what of the language's rules can be seen from outside and in the source. */
public final class RulesTest {
    private static final Checks C = new Checks();
    private static final String[] FACE = {
        "int write(long,int)", "int erase()", "int fault()", "int hall()", "int person(int,int)", "int worth(int,int)",
        "int as(int,int,int)", "int tell(int,int,int)", "int order(int)", "int next(int)", "int vote()", "int result(int,int)",
        "int held(int,int)", "int keep(int)", "int back(int)", "int carries()", "int gain(int)", "int settles()",
        "int best(int,int,int)", "int put(int,int)", "int turn(int,int)", "int bought(int)", "int fair(int)", "int hour(int)",
        "int row(int,int,int,int)", "int forget()", "int judge()", "int arms(int,int)", "int count(int)"};

    public static void main(String[] args) throws Exception {
        face();
        members(RaisedArms.class);
        for (Class<?> inner : RaisedArms.class.getDeclaredClasses()) {
            C.isTrue(inner + " is static", Modifier.isStatic(inner.getModifiers()));
            C.isTrue(inner + " is not public", !Modifier.isPublic(inner.getModifiers()) && !Modifier.isProtected(inner.getModifiers()));
            members(inner);
        }
        C.isTrue("at most twelve classes", RaisedArms.class.getDeclaredClasses().length + 1 <= 12);
        source(Files.readString(Path.of(args[0])));
        anyNumbers();
        C.end("RulesTest");
    }

    private static void face() {
        Set<String> due = new TreeSet<>(Set.of(FACE));
        Set<String> seen = new TreeSet<>();
        Set<String> names = new TreeSet<>();
        for (Method method : RaisedArms.class.getDeclaredMethods()) {
            if (Modifier.isPublic(method.getModifiers())) {
                StringBuilder s = new StringBuilder(method.getReturnType() + " " + method.getName() + "(");
                for (Class<?> type : method.getParameterTypes()) {
                    s.append(s.charAt(s.length() - 1) == '(' ? "" : ",").append(type);
                }
                seen.add(s.append(")").toString());
                names.add(method.getName());
            }
        }
        C.isTrue("the face is " + due + ", seen " + seen, due.equals(seen));
        for (Method method : RaisedArms.class.getDeclaredMethods()) {
            boolean isPrivate = Modifier.isPrivate(method.getModifiers());
            C.isTrue(method + " is public or private", isPrivate || Modifier.isPublic(method.getModifiers()));
            C.isTrue(method + " bears no public name", !isPrivate || !names.contains(method.getName()));
        }
        Constructor<?>[] made = RaisedArms.class.getDeclaredConstructors();
        C.isTrue("one public constructor", made.length == 1 && Modifier.isPublic(made[0].getModifiers()) && made[0].getParameterCount() == 0);
        C.isTrue("final and public", Modifier.isFinal(RaisedArms.class.getModifiers()) && Modifier.isPublic(RaisedArms.class.getModifiers()));
        int constants = 0;
        for (Field field : RaisedArms.class.getDeclaredFields()) {
            constants += Modifier.isPublic(field.getModifiers()) ? 1 : 0;
            C.isTrue(field + " is public or private", (field.getModifiers() & (Modifier.PUBLIC | Modifier.PRIVATE)) != 0);
        }
        C.due("constants", constants, 5);
        C.due("NONE", RaisedArms.NONE, -1);
        C.due("UNKNOWN", RaisedArms.UNKNOWN, -2);
        C.due("OUTSIDE", RaisedArms.OUTSIDE, -3);
        C.due("NOT", RaisedArms.NOT, -4);
        C.due("FULL", RaisedArms.FULL, -5);
    }

    private static void members(Class<?> type) {
        int fields = 0;
        for (Field field : type.getDeclaredFields()) {
            if (Modifier.isStatic(field.getModifiers())) {
                C.isTrue(field + " is a constant", Modifier.isFinal(field.getModifiers()) && field.getType() == int.class);
            } else {
                fields++;
            }
        }
        C.isTrue(type + " has at most twenty fields", fields <= 20);
        for (Method method : type.getDeclaredMethods()) {
            C.isTrue(method + " takes at most seven", method.getParameterCount() <= 7);
        }
    }

    private static void source(String text) {
        String code = text.replaceAll("(?s)/\\*.*?\\*/", "").replaceAll("//[^\n]*", "").replaceAll("\"[^\"\n]*\"", "\"\"");
        String[] words = {"throw", "throws", "try", "catch", "finally", "synchronized", "assert", "import", "package", "native",
            "volatile", "record", "hashCode", "toString", "equals", "Object", "Random", "Thread", "nanoTime", "currentTimeMillis"};
        for (String word : words) {
            C.isTrue("no " + word, !Pattern.compile("\\b" + word + "\\b").matcher(code).find());
        }
        C.isTrue("no lambda", !code.contains("->"));
        C.isTrue("no method reference", !code.contains("::"));
        C.isTrue("no Exact", !code.contains("Exact"));
        C.isTrue("no division", !Pattern.compile("[/%]").matcher(code).find());
        Matcher library = Pattern.compile("\\b(System|Math|Integer|Long|Arrays)\\.(\\w+)").matcher(code);
        Set<String> allowed = Set.of("System.arraycopy", "Math.min", "Math.max", "Math.abs");
        while (library.find()) {
            C.isTrue(library.group() + " may be used", allowed.contains(library.group()));
        }
        for (char c : text.toCharArray()) {
            if (c > 127) {
                C.isTrue("a sign above 127", false);
            }
        }
        methodLengths(text);
        callDepths(code);
    }

    /** A method begins at a line that is indented by 4 or 8 and ends with ") {". */
    private static void methodLengths(String text) {
        String[] lines = text.split("\n");
        for (int i = 0; i < lines.length; i++) {
            if (lines[i].matches("( {4}| {8})[a-zA-Z].*\\) \\{")) {
                String end = lines[i].replaceAll("\\S.*", "") + "}";
                int last = i;
                while (last < lines.length && !lines[last].equals(end)) {
                    last++;
                }
                C.isTrue("at most sixty lines: " + lines[i].trim(), last - i < 60);
            }
        }
    }

    /** Calls that are no recursion go at most eight deep, the library's among them; methods are told apart by their names alone. */
    private static void callDepths(String code) {
        Map<String, Set<String>> calls = new TreeMap<>();
        Set<String> open = new TreeSet<>();
        Pattern head = Pattern.compile("(?: {4}| {8})(?:[\\w\\[\\]]+ )*(\\w+)\\([^;]*\\) \\{");
        Pattern call = Pattern.compile("(?<!new )\\b(\\w+)\\(");
        for (String line : code.split("\n")) {
            Matcher begins = head.matcher(line);
            if (begins.matches()) {
                open = calls.computeIfAbsent(begins.group(1), name -> new TreeSet<>());
                continue;
            }
            Matcher called = call.matcher(line);
            while (called.find()) {
                open.add(called.group(1));
            }
        }
        for (Set<String> names : calls.values()) {
            names.removeAll(Set.of("if", "for", "while", "switch"));
        }
        for (Method method : RaisedArms.class.getDeclaredMethods()) {
            int depth = depth(method.getName(), calls, new TreeSet<>());
            C.isTrue(method.getName() + " calls at most eight deep: " + depth, depth <= 8);
        }
        C.isTrue("the depths are seen: " + calls.keySet(), depth("best", calls, new TreeSet<>()) > 5);
    }

    private static int depth(String name, Map<String, Set<String>> calls, Set<String> path) {
        int deepest = 0;
        path.add(name);
        for (String called : calls.getOrDefault(name, Set.of())) {
            if (!path.contains(called)) {
                deepest = Math.max(deepest, depth(called, calls, path));
            }
        }
        path.remove(name);
        return deepest + 1;
    }

    /** No call throws, whatever its numbers are, in a hall of nobody and in one that is full. */
    private static void anyNumbers() {
        int[] odd = {Integer.MIN_VALUE, -100, -2, -1, 0, 1, 2, 3, 4, 5, 6, 7, 8, 9, 30, 31, 99, 100, 200, 1000, Integer.MAX_VALUE};
        String[][] texts = {{}, {"plain 30 9;watch 30 9;stout 30 9;told 30 9;watch 30 9;stout 30 9;matter 9;matter 1;matter 5;matter 5;matter 5",
            "for 0 0 9;against 1 0 9;for 2 1 9;against 3 2 9;against 4 3 9;for 5 4 9;counts 0 9;counts 1 9;counts 2 9;counts 3 9;counts 4 9;hold 9"}};
        for (String[] told : texts) {
            for (int a : odd) {
                for (int b : odd) {
                    RaisedArms x = Checks.hall(told);
                    for (int c : odd) {
                        call(x, a, b, c);
                    }
                }
            }
        }
        C.isTrue("no call threw", true);
    }

    private static void call(RaisedArms x, int a, int b, int c) {
        x.write((long) a << 32 ^ c, b);
        x.person(a, b);
        x.worth(a, b);
        x.as(a, b, c);
        x.tell(a, b, c);
        x.order(a);
        x.next(a);
        x.result(a, b);
        x.held(a, b);
        x.keep(a);
        x.back(b);
        x.gain(a);
        x.best(a, b, c);
        x.put(a, b);
        x.turn(a, b);
        x.bought(a);
        x.fair(a);
        x.hour(a);
        x.row(a, b, c, 1);
        x.arms(a, b);
        x.count(a);
        x.fault();
        x.hall();
        x.judge();
        if (c == 4) {
            x.vote();
            x.settles();
            x.carries();
            x.forget();
            x.erase();
        }
    }
}
