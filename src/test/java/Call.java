/** A call on an object, written as in the document: session(0, 0, 0, 6, 9). */
final class Call {
    private static final String ARGUMENT = "argument";
    private static final String INDEX = "index";
    private static final String STATE = "state";

    final String name;
    private final long[] v;

    private Call(String name, long[] v) {
        this.name = name;
        this.v = v;
    }

    static Call of(String name, long... v) {
        return new Call(name, v.clone());
    }

    static Call read(String line) {
        int open = line.indexOf('(');
        String inside = line.substring(open + 1, line.lastIndexOf(')')).trim();
        String[] parts = inside.isEmpty() ? new String[0] : inside.split(",");
        long[] v = new long[parts.length];
        for (int i = 0; i < v.length; i++) {
            v[i] = Long.parseLong(parts[i].trim().replace("_", ""));
        }
        return new Call(line.substring(0, open).trim(), v);
    }

    /** Whether the document says that the call changes nothing, whatever it answers. */
    boolean changesNothing() {
        switch (name) {
            case "errorPosition": case "about": case "stenographer": case "sessionOf": case "transcript":
            case "setting": case "whyNot": case "whom": case "coming": case "emptyIn": case "ifHired":
            case "freeRoom": case "runScript": case "simulate": return true;
            default: return false;
        }
    }

    /** The number that it answers, or the exception that it throws. */
    String answer(StenoRooms x) {
        try {
            return Integer.toString(on(x));
        } catch (RuntimeException e) {
            return exception(e);
        }
    }

    /** The document's three exceptions by a short name, any other one by its own. */
    static String exception(RuntimeException e) {
        if (e.getClass() == IndexOutOfBoundsException.class) {
            return INDEX;
        }
        if (e.getClass() == IllegalArgumentException.class) {
            return ARGUMENT;
        }
        return e.getClass() == IllegalStateException.class ? STATE : e.getClass().getName();
    }

    static boolean isNumber(String answer) {
        return answer.matches("-?[0-9]+");
    }

    private int v(int i) {
        return Math.toIntExact(v[i]);
    }

    private int on(StenoRooms x) {
        switch (name) {
            case "append": return x.append(v(0));
            case "clearText": return x.clearText();
            case "errorPosition": return x.errorPosition();
            case "load": return x.load();
            case "about": return x.about(v(0));
            case "stenographer": return x.stenographer(v(0), v(1));
            case "sessionOf": return x.sessionOf(v(0), v(1));
            case "transcript": return x.transcript(v(0), v(1), v(2));
            case "setting": return x.setting(v(0));
            case "hire": return x.hire(v(0));
            case "session": return x.session(v(0), v(1), v(2), v(3), v(4));
            case "cancel": return x.cancel(v(0));
            case "give": return x.give(v(0), v(1));
            case "giveAll": return x.giveAll();
            case "extend": return x.extend(v(0), v(1));
            case "leave": return x.leave(v(0), v(1));
            case "run": return x.run(v(0));
            case "set": return x.set(v(0), v(1));
            case "undo": return x.undo();
            case "whyNot": return x.whyNot(v(0), v(1));
            case "whom": return x.whom(v(0));
            case "coming": return x.coming(v(0), v(1));
            case "emptyIn": return x.emptyIn(v(0));
            case "ifHired": return x.ifHired(v(0), v(1));
            case "freeRoom": return x.freeRoom(v(0), v(1), v(2));
            case "runScript": return x.runScript(v(0), v[1]);
            case "simulate": return x.simulate(v[0], v(1));
            case "save": return x.save(v(0));
            case "restore": return x.restore(v(0));
            default: throw new AssertionError(name);
        }
    }

    @Override
    public String toString() {
        StringBuilder s = new StringBuilder(name).append('(');
        for (int i = 0; i < v.length; i++) {
            s.append(i == 0 ? "" : ", ").append(v[i]);
        }
        return s.append(')').toString();
    }
}
