import java.util.List;

/**
 * All that later calls can show of an object: what there is, each remembered state, both save slots, the text.
 * Each of these is looked at on an object of its own, for which the calls are made again, as looking changes it.
 */
final class Later {
    /** The document promises nothing of later calls of one object. */
    static final int CALLS = 512;

    private static final int UNDOS = 15;

    private final StenoRooms x = new StenoRooms();
    private final StringBuilder shown = new StringBuilder();
    private int left;

    private Later(List<Call> calls, int mostCalls) {
        for (Call call : calls) {
            call.answer(x);
        }
        left = CALLS - mostCalls;
    }

    /** Two runs of calls are compared with the same mostCalls, the number of the longer one's calls. */
    static String afterwards(List<Call> calls, int mostCalls) {
        StringBuilder all = new StringBuilder();
        all.append(new Later(calls, mostCalls).whatThereIs());
        for (int n = 1; n <= UNDOS; n++) {
            Later later = new Later(calls, mostCalls);
            for (int i = 0; i < n; i++) {
                later.call("undo");
            }
            all.append(later.whatThereIs());
        }
        for (int slot = 0; slot < 2; slot++) {
            Later later = new Later(calls, mostCalls);
            later.call("restore", slot);
            all.append(later.whatThereIs());
        }
        Later later = new Later(calls, mostCalls);
        later.call("load");
        all.append(later.whatThereIs());
        later.call("clearText");
        return all.append(later.shown).toString();
    }

    static String present(List<Call> calls) {
        return new Later(calls, calls.size()).whatThereIs();
    }

    private int call(String name, long... v) {
        left--;
        Call call = Call.of(name, v);
        String answer = left >= 0 ? call.answer(x) : "0";
        shown.append(call).append(" = ").append(answer).append('\n');
        return Call.isNumber(answer) ? Integer.parseInt(answer) : 0;
    }

    private String whatThereIs() {
        call("errorPosition");
        for (int what = 0; what <= 10; what++) {
            call("about", what);
        }
        for (int what = 0; what <= 3; what++) {
            call("setting", what);
        }
        int sessions = call("about", 1);
        for (int k = 0; k < sessions; k++) {
            for (int what = 0; what <= 5; what++) {
                call("sessionOf", k, what);
            }
        }
        int staff = call("about", 0);
        for (int p = 0; p < staff; p++) {
            for (int what = 0; what <= 6; what++) {
                call("stenographer", p, what);
            }
        }
        for (int p = 0; p < staff; p++) {
            int transcripts = call("stenographer", p, 3);
            for (int i = 0; i < transcripts && left > 0; i++) {
                call("transcript", p, i, 0);
                call("transcript", p, i, 1);
            }
        }
        return shown.toString();
    }
}
