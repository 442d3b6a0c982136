import java.util.ArrayList;
import java.util.List;

/**
 * A call that is refused changes nothing, if nothing else is said. Each such call is made in a situation, and every
 * call after it must answer what it answers there without it. What is inside an object is not seen: many short runs
 * of other calls (the probes) show the clocks, promises, leases, epochs, logs, locks and transactions.
 */
public final class RefusalTest {
    private static final int TRANSACTIONS = 16;
    private static final String LEADERS = Script.LEADERS;
    private static final String PREPARED = Script.PREPARED;
    private static final String COMMITTING = Script.COMMITTING;

    public static void main(String[] args) {
        onNewObject();
        ofNodes();
        ofTransactions();
        withoutReadyNode();
        fullOrLate();
        stepsThatDoNothing();
        answersAlone();
        onlyLeadsNoMore();
        onlyAborted();
        Script.end();
    }

    private static void onNewObject() {
        changesNothing(5, "", "tick 0 = NONE; tick -1 = NONE; tick 51 = NONE; tick -2147483648 = NONE; tick 2147483647 = NONE; "
            + "skew 0 6 = false; skew 0 -6 = false; skew 6 0 = false; skew -1 0 = false; crash 6 = false; crash -1 = false; "
            + "recover 0 = false; recover 5 = false; recover 6 = false; elect 6 = NONE; elect -1 = NONE; beat 0 = NONE; "
            + "beat 5 = NONE; beat 6 = NONE; ship 0 1 = NONE; ship 0 0 = NONE; ship 0 3 = NONE; ship 0 6 = NONE; "
            + "ship -1 0 = NONE; read 0 0 = NONE; write 0 0 1 = false; commit 0 = NONE; abort 0 = false; step 0 = NONE");
    }

    private static void ofNodes() {
        String situation = "skew 0 2 = true; skew 4 -3 = true; " + LEADERS + "crash 2 = true; tick 5 = 5; beat 0 = 10; ";
        changesNothing(3, situation, "tick 0 = NONE; tick 51 = NONE; skew 0 4 = false; skew 4 -4 = false; skew 2 4 = false; "
            + "crash 2 = false; recover 0 = false; elect 2 = NONE; beat 1 = NONE; beat 2 = NONE; beat 4 = NONE; ship 0 2 = NONE; "
            + "ship 1 0 = NONE; ship 1 2 = NONE; ship 0 0 = NONE; ship 0 3 = NONE; ship 0 4 = NONE; ship 3 0 = NONE; "
            + "ship 2 1 = NONE; ship 0 -1 = NONE; ship 3 6 = NONE");
        String greaterEpochThatIsDown = LEADERS + "crash 2 = true; tick 41 = 41; recover 2 = true; elect 2 = 0; elect 2 = 0; "
            + "crash 2 = true; ";
        changesNothing(0, greaterEpochThatIsDown, "ship 0 2 = NONE; ship 2 0 = NONE; elect 2 = NONE; beat 2 = NONE");
        changesNothing(0, "crash 2 = true; elect 0 = 3; ", "ship 0 2 = NONE; ship 2 0 = NONE; elect 2 = NONE; beat 2 = NONE");
        changesNothing(0, LEADERS + "tick 10 = 10; crash 0 = true; ", "beat 0 = NONE; ship 0 1 = NONE; elect 0 = NONE; "
            + "crash 0 = false; recover 1 = false; snapshot 0 0 0 = NONE");
    }

    private static void ofTransactions() {
        String situation = LEADERS + "5 x begin; read 0 0 = 0; write 0 1 5 = true; read 1 4 = 0; write 1 4 6 = true; "
            + "write 2 2 7 = true; commit 2 = 2; read 3 5 = 0; write 3 0 3 = true; abort 4 = true; ";
        changesNothing(0, situation, "read 0 8 = NONE; read 0 -1 = NONE; read 5 0 = NONE; read -1 0 = NONE; read 2 2 = OVER; "
            + "read 4 0 = OVER; read 0 1 = 5; read 1 4 = 6; read 0 2 = WAIT; read 3 2 = WAIT; write 0 8 1 = false; "
            + "write 0 -1 1 = false; write 0 0 1000 = false; write 0 0 -1 = false; write 0 1 1000 = false; write 2 2 9 = false; "
            + "write 2 3 9 = false; write 4 0 1 = false; write 5 0 0 = false; commit 2 = OVER; commit 4 = OVER; commit 5 = NONE; "
            + "commit -1 = NONE; commit 3 = WAIT; abort 2 = false; abort 4 = false; abort 5 = false; step 0 = 0; step 2 = 2; "
            + "step 4 = 4; step 5 = NONE");
        changesNothing(0, situation + "write 0 2 9 = true; write 0 4 9 = true; read 3 1 = 0; ", "commit 0 = WAIT");
        changesNothing(0, LEADERS + "16 x begin; read 15 0 = 0; abort 3 = true; ", "begin = NONE; read 16 0 = NONE; "
            + "write 16 0 0 = false; commit 16 = NONE; abort 16 = false; step 16 = NONE");
    }

    private static void withoutReadyNode() {
        changesNothing(0, "elect 0 = 3; ship 0 1 = 1; 2 x begin; write 0 0 1 = true; write 0 4 1 = true; read 1 0 = 0; ",
            "read 0 5 = DOWN; read 1 5 = DOWN; commit 0 = DOWN");
        changesNothing(0, LEADERS + "begin = 0; read 0 0 = 0; read 0 4 = 0; tick 39 = 39; beat 3 = 39; tick 1 = 40; ",
            "read 0 1 = DOWN; commit 0 = DOWN");
        changesNothing(0, LEADERS + "begin = 0; read 0 0 = 0; write 0 4 1 = true; elect 0 = 6; ship 0 1 = 2; crash 3 = true; ",
            "commit 0 = DOWN; read 0 5 = DOWN");
        changesNothing(0, PREPARED + "tick 40 = 40; ", "step 0 = DOWN");
        changesNothing(0, PREPARED + "crash 3 = true; ", "step 0 = DOWN");
        changesNothing(0, COMMITTING + "tick 40 = 40; ", "step 0 = DOWN");
    }

    private static void fullOrLate() {
        String readers = LEADERS + "begin = 0; begin = 1; read 1 0 = 0; write 0 0 1 = true; write 0 4 1 = true; ";
        changesNothing(0, readers + "59 x tick 1, beat 0; beat 3 = 59; ", "commit 0 = FULL");
        changesNothing(0, readers + "59 x tick 1, beat 3; beat 0 = 59; ", "commit 0 = FULL");
        changesNothing(0, readers + "39 x beat 0; ", "commit 0 = LATE");
        changesNothing(0, readers + "39 x beat 3; ", "commit 0 = LATE");
        changesNothing(0, PREPARED + "58 x tick 1, beat 0; beat 3 = 58; ", "step 0 = FULL");
        changesNothing(0, PREPARED + "38 x beat 0; ", "step 0 = LATE");
    }

    private static void stepsThatDoNothing() {
        String prepare = LEADERS + "begin = 0; write 0 0 7 = true; write 0 4 8 = true; commit 0 = 1; ";
        changesNothing(0, prepare, "step 0 = 1; abort 0 = false; commit 0 = OVER; write 0 0 1 = false; read 0 0 = OVER");
        changesNothing(0, prepare + "ship 0 1 = 2; ", "step 0 = 1");
        changesNothing(0, prepare + "ship 3 4 = 2; ", "step 0 = 1");
        changesNothing(0, PREPARED + "step 0 = 2; tick 9 = 9; ", "step 0 = 2; commit 0 = OVER; write 0 0 1 = false");
        changesNothing(0, COMMITTING + "tick 2 = 2; ", "step 0 = 2");
        String committed = COMMITTING + "tick 3 = 3; step 0 = 3; ";
        changesNothing(0, committed + "40 x beat 3; ", "step 0 = 3; commit 0 = OVER; write 0 0 1 = false; abort 0 = false");
        changesNothing(0, committed + "57 x tick 1, beat 3; tick 1 = 61; beat 3 = 61; ", "step 0 = 3");
        changesNothing(0, committed + "crash 3 = true; ", "step 0 = 3");
        changesNothing(0, committed + "step 0 = 3; ", "step 0 = 3");
    }

    private static void answersAlone() {
        String situation = COMMITTING + "4 x begin; write 1 1 1 = true; commit 1 = 2; read 2 2 = 0; beat 3 = 2; ship 3 5 = 1; "
            + "tick 2 = 2; crash 5 = true; ";
        changesNothing(0, situation, "state 0 = 2; state 1 = 2; state 2 = 0; state 5 = NONE; stamp 0 = 0; stamp 2 = 0; "
            + "stamp 5 = NONE; snapshot 0 0 2 = 7; snapshot 0 0 3 = WAIT; snapshot 0 4 0 = NONE; snapshot 0 0 -1 = NONE; "
            + "snapshot 2 0 0 = WAIT; snapshot 5 4 0 = NONE; safe 0 = 2; safe 2 = NONE; safe 3 = 0; safe 6 = NONE; length 0 = 4; "
            + "length 6 = NONE; known 0 = 3; known 6 = NONE; leader 0 = 0; leader 1 = 3; leader 2 = NONE");
        String versions = "elect 3 = 3; ship 3 4 = 1; 4 x begin; write 0 7 1 = true; write 1 7 2 = true; write 2 7 3 = true; "
            + "write 3 7 4 = true; commit 0 = 2; ship 3 4 = 2; commit 1 = 2; ship 3 4 = 3; commit 2 = 2; ship 3 4 = 4; "
            + "commit 3 = 2; ship 3 4 = 5; ";
        changesNothing(0, versions, "snapshot 3 7 1 = GONE; snapshot 3 7 2 = 2; snapshot 4 7 0 = GONE; snapshot 5 7 0 = WAIT");
    }

    /** A crash takes leading away and leaves all else, so STALE leaves what a crash and a recovery leave. */
    private static void onlyLeadsNoMore() {
        String situation = "crash 2 = true; " + LEADERS + "recover 2 = true; tick 5 = 5; elect 2 = 0; elect 2 = 0; beat 0 = 5; ";
        sameAfter(0, situation, "ship 0 2 = STALE", "crash 0 = true; recover 0 = true");
    }

    private static void onlyAborted() {
        String lost = LEADERS + "begin = 0; begin = 1; read 0 0 = 0; read 0 4 = 0; write 0 5 1 = true; read 1 5 = 0; elect 0 = 6; "
            + "ship 0 1 = 2; ";
        sameAfter(0, lost, "read 0 0 = OVER", "abort 0 = true");
        sameAfter(0, lost, "read 0 3 = OVER", "abort 0 = true");
        sameAfter(0, lost, "commit 0 = 4", "abort 0 = true");
    }

    private static void changesNothing(int eps, String situation, String calls) {
        for (String call : calls.split("; ")) {
            sameAfter(eps, situation, call, "");
        }
    }

    /** Calls in a situation and other calls there leave the same behind. */
    private static void sameAfter(int eps, String situation, String calls, String others) {
        Script.run("in this situation", eps, situation + calls);
        int made = Script.answers(eps, situation + calls).size();
        int othersMade = Script.answers(eps, situation + others).size();
        for (String probe : probes(begun(eps, situation))) {
            List<Integer> got = Script.answers(eps, situation + calls + "; " + probe);
            List<Integer> due = Script.answers(eps, situation + others + "; " + probe);
            if (!got.subList(made, got.size()).equals(due.subList(othersMade, due.size()))) {
                Script.wrong(calls + " changes something (eps " + eps + ": " + situation + "): then " + probe + " answers "
                    + got.subList(made, got.size()) + ", due is " + due.subList(othersMade, due.size()));
                return;
            }
        }
    }

    private static int begun(int eps, String situation) {
        List<Integer> answers = Script.answers(eps, situation + "begin");
        int next = answers.get(answers.size() - 1);
        return next < 0 ? TRANSACTIONS : next;
    }

    private static List<String> probes(int begun) {
        List<String> probes = new ArrayList<>();
        probes.add(looks());
        probes.add("begin; begin; tick 1; tick 50");
        probes.add("45 x leader 0, leader 1, tick 1");
        for (int node = 0; node < 6; node++) {
            addProbesOfNode(probes, node);
        }
        for (int t = 0; t < begun; t++) {
            addProbesOfTransaction(probes, t);
        }
        for (int key = 0; key < 8 && begun < TRANSACTIONS; key++) {
            probes.add("begin; write " + begun + " " + key + " 5; commit " + begun + "; " + states());
        }
        return probes;
    }

    private static String looks() {
        StringBuilder looks = new StringBuilder("leader 0; leader 1; " + states());
        for (int node = 0; node < 6; node++) {
            looks.append("; length #; known #; safe #".replace("#", "" + node));
            for (int key = node / 3 * 4; key < node / 3 * 4 + 4; key++) {
                for (int time = 0; time < 6; time++) {
                    looks.append("; snapshot " + node + " " + key + " " + time);
                }
            }
        }
        return looks.toString();
    }

    private static String states() {
        StringBuilder states = new StringBuilder("state 0; stamp 0");
        for (int t = 1; t < TRANSACTIONS; t++) {
            states.append("; state #; stamp #".replace("#", "" + t));
        }
        return states.toString();
    }

    private static void addProbesOfNode(List<String> probes, int node) {
        int first = node / 3 * 3 + (node + 1) % 3;
        int second = node / 3 * 3 + (node + 2) % 3;
        String ships = "3 x ship " + node + " " + first + ", ship " + node + " " + second + "; ";
        probes.add("crash #; recover #; crash #".replace("#", "" + node));
        probes.add("42 x beat #; length #".replace("#", "" + node));
        probes.add(ships + looks());
        probes.add("tick 50; tick 50; 4 x elect " + node + "; " + ships + looks());
        for (int time = 0; time <= 52; time++) {
            probes.add("recover " + node + "; tick " + time / 2 + "; tick " + (time - time / 2) + "; 3 x elect " + node);
        }
    }

    private static void addProbesOfTransaction(List<String> probes, int t) {
        String ships = "3 x ship 0 1, ship 3 4, tick 1; ";
        String reads = "read # 0; read # 1; read # 2; read # 3; read # 4; read # 5; read # 6; read # 7; ".replace("#", "" + t);
        probes.add(reads + states());
        probes.add("commit " + t + "; " + states());
        probes.add(("commit #; " + ships + "step #; " + ships + "step #; " + ships + "step #; ").replace("#", "" + t) + looks());
        probes.add("elect 0; " + ships + reads + "commit " + t + "; state " + t);
        probes.add("elect 3; " + ships + reads + "commit " + t + "; state " + t);
        for (int key = 0; key < 8; key++) {
            probes.add("write # ".replace("#", "" + t) + key + " 5; commit " + t + "; " + states());
        }
    }
}
