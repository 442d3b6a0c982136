import java.lang.reflect.Method;
import java.util.ArrayList;
import java.util.HashMap;
import java.util.List;
import java.util.Map;

/**
 * Runs of calls told as text. Calls stand between semicolons, each with the answer that is due ("ship 0 1 = 2"), or
 * without one ("ship 0 1"), if it does not matter there; "12 x tick 1, beat 0" makes these calls 12 times.
 */
final class Script {
    /** Node 0 and node 3 are ready, each with one BEAT that two logs have; with eps 0 its stamp is 0, its lease end 40. */
    static final String LEADERS = "elect 0 = 3; ship 0 1 = 1; elect 3 = 3; ship 3 4 = 1; ";
    /** Transaction 0 has a PREPARE in both groups, and both are known; with eps 0 their stamp is 1. */
    static final String PREPARED = LEADERS + "begin = 0; write 0 0 7 = true; write 0 4 8 = true; commit 0 = 1; "
        + "ship 0 1 = 2; ship 3 4 = 2; ";
    /** Its COMMIT is known in group 0; with eps 0 its stamp is 2. */
    static final String COMMITTING = PREPARED + "step 0 = 2; ship 0 1 = 3; ";
    /** The document leaves free what an object answers after these. */
    private static final int MOST_CALLS = 512;
    private static final Map<String, Method> METHODS = new HashMap<>();
    private static int wrong = 0;
    private static int made = 0;

    private final StampedStore store;
    private final List<Integer> answers = new ArrayList<>();

    private Script(int eps) {
        store = new StampedStore(eps);
    }

    /** Makes the calls on a new object, and tells the first answer that is not the one that is due. */
    static void run(String why, int eps, String told) {
        Script script = new Script(eps);
        for (String line : told.split(";")) {
            String fault = script.line(line.trim());
            if (fault != null) {
                wrong(why + ": " + fault + " (eps " + eps + ": " + told + ")");
                return;
            }
        }
    }

    /** All answers of the calls on a new object, whatever is due. */
    static List<Integer> answers(int eps, String told) {
        Script script = new Script(eps);
        for (String line : told.split(";")) {
            if (!line.isBlank()) {
                script.line(line.trim());
            }
        }
        return script.answers;
    }

    static void wrong(String what) {
        wrong++;
        System.out.println(what);
    }

    /** Ends the test: with exit code 1, if something was wrong. */
    static void end() {
        System.out.println(made + " calls, " + wrong + " answers are not as due");
        if (wrong != 0) {
            System.exit(1);
        }
    }

    private String line(String told) {
        if (told.contains(" x ")) {
            return repeated(told);
        }
        String[] halves = told.split("=");
        int got = call(halves[0].trim());
        if (halves.length == 1 || got == number(halves[1].trim())) {
            return null;
        }
        return halves[0].trim() + " answered " + got + ", due is " + halves[1].trim();
    }

    private String repeated(String told) {
        String[] halves = told.split(" x ");
        int times = Integer.parseInt(halves[0].trim());
        for (int time = 0; time < times; time++) {
            for (String one : halves[1].split(",")) {
                String fault = line(one.trim());
                if (fault != null) {
                    return fault;
                }
            }
        }
        return null;
    }

    private int call(String told) {
        if (answers.size() == MOST_CALLS) {
            throw new IllegalStateException("a run has too many calls: " + told);
        }
        made++;
        String[] words = told.split(" ");
        Object[] arguments = new Object[words.length - 1];
        for (int i = 1; i < words.length; i++) {
            arguments[i - 1] = Integer.valueOf(words[i]);
        }
        int answer = number(invoke(words[0], arguments).toString());
        answers.add(answer);
        return answer;
    }

    private Object invoke(String name, Object[] arguments) {
        try {
            if (METHODS.isEmpty()) {
                for (Method method : StampedStore.class.getMethods()) {
                    METHODS.put(method.getName(), method);
                }
            }
            return METHODS.get(name).invoke(store, arguments);
        } catch (ReflectiveOperationException thrown) {
            throw new IllegalStateException(name + " threw " + thrown.getCause(), thrown);
        }
    }

    private static int number(String told) {
        switch (told) {
            case "false": return 0;
            case "true": return 1;
            case "NONE": return -1;
            case "OVER": return -2;
            case "DOWN": return -3;
            case "WAIT": return -4;
            case "STALE": return -5;
            case "FULL": return -6;
            case "LATE": return -7;
            case "GONE": return -8;
            default: return Integer.parseInt(told);
        }
    }
}
