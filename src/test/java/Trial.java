import java.lang.reflect.InvocationTargetException;
import java.lang.reflect.Method;
import java.lang.reflect.Modifier;
import java.util.ArrayList;
import java.util.Arrays;
import java.util.Comparator;
import java.util.List;

/**
 * A run of calls on a new object, with what is due. A line is one of these:
 *
 *   hire(4)                   the call answers a number, whichever
 *   hire(4) = 0               it answers this number
 *   hire(21) throws argument  it throws exactly this: index, argument or state
 *   sessions = 0 3 1 2 9 -1, 1 3 1 2 9 0
 *                             the sessions then, each with its six numbers
 *   desk(0) = 20:2 14:2       the transcripts on a desk then: pages:due
 *   about = 2 1 0 ..          the eleven numbers of about() then
 *   stenographer(0) = 4 0 ..  the seven numbers of a stenographer then
 *   settings = 6 10 2 5       the settings then
 *
 * Each call that throws, and each that only asks, is held against a run without it: what later calls show
 * (see Later) must be the same.
 */
final class Trial {
    private static int wrong = 0;
    private static int trials = 0;

    private final String test;
    private final StenoRooms x = new StenoRooms();
    private int made = 0;

    // The calls so far, but for those that have been seen to change nothing.
    private final List<Call> done = new ArrayList<>();

    // What later calls show behind so many of 'done'.
    private String shown = "";
    private int shownBehind = -1;

    Trial() {
        test = StackWalker.getInstance().walk(frames -> frames.map(StackWalker.StackFrame::getMethodName)
            .filter(method -> method.startsWith("promise")).findFirst().orElse("no promise"));
        trials++;
    }

    static Trial run(String... lines) {
        return new Trial().calls(lines);
    }

    /** Stenographers of these speeds, who may have sessions in all slots of a day. */
    static Trial staff(int... speeds) {
        Trial t = new Trial();
        for (int speed : speeds) {
            t.calls("hire(" + speed + ")");
        }
        return t.calls("set(0, 16)", "set(1, 16)");
    }

    Trial calls(String... lines) {
        for (String line : lines) {
            line(line);
        }
        return this;
    }

    Trial times(int n, String line) {
        for (int i = 0; i < n; i++) {
            line(line);
        }
        return this;
    }

    /** Adds a session and gives it, in one line for the many that a test needs. */
    Trial held(int p, int room, int day, int first, int slots, int talk) {
        String k = make(Call.of("session", room, day, first, slots, talk));
        make(Call.of("give", Call.isNumber(k) ? Integer.parseInt(k) : -1, p));
        return this;
    }

    /** Writes this text in place of the one that is there. */
    Trial text(String text) {
        make(Call.of("clearText"));
        for (int i = 0; i < text.length(); i++) {
            make(Call.of("append", text.charAt(i)));
        }
        return this;
    }

    /** What there is; also how tests compare two runs. */
    String present() {
        return Later.present(done);
    }

    static void same(String what, String got, String due) {
        if (!got.equals(due)) {
            fail(what + " is\n" + got + "\ndue is\n" + due);
        }
    }

    static void same(String what, int got, int due) {
        if (got != due) {
            fail(what + " is " + got + ", due is " + due);
        }
    }

    private void line(String line) {
        int equals = line.indexOf(" = ");
        int throwing = line.indexOf(" throws ");
        if (throwing >= 0) {
            due(Call.read(line.substring(0, throwing)), line.substring(throwing + 8).trim());
        } else if (equals < 0) {
            make(Call.read(line));
        } else if (!isView(line.substring(0, equals))) {
            due(Call.read(line.substring(0, equals)), line.substring(equals + 3).trim());
        } else {
            String got = view(line.substring(0, equals).trim());
            if (!got.equals(line.substring(equals + 3).trim())) {
                fail(at() + line + "\nbut it is " + got);
            }
        }
    }

    /** Makes a call that has to answer some number. */
    private String make(Call call) {
        String answer = answer(call);
        done.add(call);
        if (!Call.isNumber(answer)) {
            fail(at() + call + " threw " + answer + ", due is an answer");
        }
        return answer;
    }

    private String answer(Call call) {
        made++;
        if (made == Later.CALLS + 1) {
            fail(test + " makes more calls than an object is used for");
        }
        return call.answer(x);
    }

    private void due(Call call, String due) {
        String answer = answer(call);
        if (!answer.equals(due)) {
            fail(at() + call + " answered " + answer + ", due is " + due);
        }
        if (call.changesNothing() || !Call.isNumber(due)) {
            changesNothing(call);
        } else {
            done.add(call);
        }
    }

    private void changesNothing(Call call) {
        if (shownBehind != done.size()) {
            shown = Later.afterwards(done, done.size() + 1);
            shownBehind = done.size();
        }
        List<Call> withIt = new ArrayList<>(done);
        withIt.add(call);
        if (!Later.afterwards(withIt, withIt.size()).equals(shown)) {
            fail(at() + call + " changed something");
        }
    }

    private static boolean isView(String what) {
        return what.matches("(sessions|about|settings|desk\\([0-9]\\)|stenographer\\([0-9]\\)) *");
    }

    /** Reads on another object, as what a test looks at shall not count as calls. */
    private String view(String what) {
        StenoRooms y = new StenoRooms();
        for (Call call : done) {
            call.answer(y);
        }
        int p = what.endsWith(")") ? what.charAt(what.length() - 2) - '0' : 0;
        StringBuilder s = new StringBuilder();
        switch (what.charAt(0) == 's' ? what.substring(0, 3) : what.substring(0, 1)) {
            case "a": numbers(s, y, "about", 11); break;
            case "set": numbers(s, y, "setting", 4); break;
            case "ste": numbers(s, y, "stenographer", 7, p); break;
            case "ses":
                for (int k = 0; k < y.about(1); k++) {
                    numbers(s.append(k == 0 ? "" : ", "), y, "sessionOf", 6, k);
                }
                break;
            default:
                for (int i = 0; i < y.stenographer(p, 3); i++) {
                    s.append(i == 0 ? "" : " ").append(y.transcript(p, i, 0)).append(':').append(y.transcript(p, i, 1));
                }
        }
        return s.toString();
    }

    private static void numbers(StringBuilder s, StenoRooms y, String name, int n, long... of) {
        for (int what = 0; what < n; what++) {
            long[] v = Arrays.copyOf(of, of.length + 1);
            v[of.length] = what;
            s.append(what == 0 ? "" : " ").append(Call.of(name, v).answer(y));
        }
    }

    private String at() {
        StringBuilder s = new StringBuilder(test).append(": behind");
        for (Call call : done) {
            s.append(' ').append(call);
        }
        return s.append("\n  ").toString();
    }

    private static void fail(String message) {
        wrong++;
        if (wrong <= 20) {
            System.out.println(message);
        }
    }

    /** Runs each method of the class whose name begins with "promise", and ends with exit code 1 if one fails. */
    static void runAll(Class<?> tests) {
        Method[] methods = tests.getDeclaredMethods();
        Arrays.sort(methods, Comparator.comparing(Method::getName));
        int made = 0;
        for (Method m : methods) {
            if (m.getName().startsWith("promise") && Modifier.isStatic(m.getModifiers()) && m.getParameterCount() == 0) {
                made++;
                invoke(m);
            }
        }
        System.out.println(tests.getName() + ": " + made + " tests, " + trials + " runs of calls, "
            + (wrong == 0 ? "all as due" : wrong + " not as due"));
        if (wrong != 0 || made == 0) {
            System.exit(1);
        }
    }

    private static void invoke(Method m) {
        try {
            m.setAccessible(true);
            m.invoke(null);
        } catch (IllegalAccessException | InvocationTargetException e) {
            fail(m.getName() + " ended with " + e.getCause());
        }
    }
}
