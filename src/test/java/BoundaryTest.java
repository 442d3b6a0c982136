/**
 * Each sentence of the document that names a boundary case, with runs that fail if the sentence is broken.
 * The sentence stands before its runs in the document's words (".." where some are left out; "crash: " where it is not
 * clear which call speaks); Script says how a run is told.
 * What a refused call leaves unchanged is in RefusalTest.
 */
public final class BoundaryTest {
    private static final int LEAST = Integer.MIN_VALUE;
    private static final int MOST = Integer.MAX_VALUE;
    private static final String LEADERS = Script.LEADERS;
    private static final String PREPARED = Script.PREPARED;
    private static final String COMMITTING = Script.COMMITTING;
    private static String sentence = "";

    public static void main(String[] args) {
        limitsOfTerms();
        clocksAndLeases();
        statesOfNodes();
        fullLogs();
        stamps();
        lateEntries();
        transactionsAndHolds();
        locksOfLogs();
        versionsAndSafeTimes();
        newObjectAndTick();
        skewCrashRecover();
        electAsks();
        electPromises();
        electBehind();
        electLeads();
        beatAsks();
        beatRefused();
        shipCutsAndAdds();
        shipKnown();
        shipRefused();
        beginAndRead();
        writeAndAbort();
        commitTests();
        commitRefused();
        commitWaits();
        commitWrites();
        stepPreparing();
        stepCommitting();
        stepEnded();
        answersOfTransactions();
        snapshotTimes();
        snapshotVersions();
        answersOfNodes();
        Script.end();
    }

    private static void limitsOfTerms() {
        says("An object is used for at most 512 calls after it has been made");
        run(0, "511 x tick 50; tick 50 = 25600");
        run(0, "511 x elect 0; elect 0 = 1536");
        run(10, "508 x tick 50; elect 5 = 2; ship 5 3 = 1; safe 5 = 25410; snapshot 3 7 25410 = 0");

        says("NODES 0 .. 5");
        for (int node : new int[] {LEAST, -6, -3, -1, 6, 7, 9, MOST}) {
            run(5, with("#", node, LEADERS + "skew # 0 = false; crash # = false; recover # = false; elect # = NONE; "
                + "beat # = NONE; ship # 0 = NONE; ship # 4 = NONE; ship 0 # = NONE; ship 3 # = NONE; ship # # = NONE; "
                + "snapshot # 0 0 = NONE; snapshot # 4 0 = NONE; safe # = NONE; length # = NONE; known # = NONE"));
        }
        for (int node = 0; node < 6; node++) {
            int beside = node / 3 * 3 + (node + 1) % 3;
            run(1, with("#", node, with("@", beside, with("%", node / 3 * 4, "skew # 1 = true; crash # = true; "
                + "recover # = true; elect # = " + (node % 3 == 0 ? 3 : node % 3) + "; beat # = 3; ship # @ = 1; "
                + "snapshot # % 2 = 0; snapshot # % 3 = WAIT; safe # = 2; length # = 2; known # = 1; "
                + "leader " + node / 3 + " = #; leader " + (1 - node / 3) + " = NONE"))));
        }

        says("node n is in GROUP n / 3 (rounded down)");
        for (int from = 0; from < 6; from++) {
            for (int to = 0; to < 6; to++) {
                boolean beside = from != to && from / 3 == to / 3;
                run(0, "elect " + from + "; ship " + from + " " + to + " = " + (beside ? "1" : "NONE"));
            }
        }

        says("KEYS 0 .. 7");
        for (int key : new int[] {LEAST, -8, -4, -1, 8, 9, 16, MOST}) {
            run(0, with("#", key, LEADERS + "begin = 0; read 0 # = NONE; write 0 # 1 = false; snapshot 0 # 0 = NONE; "
                + "snapshot 3 # 0 = NONE; commit 0 = 3"));
        }

        says("key k is of the group k / 4");
        for (int key = 0; key < 8; key++) {
            int of = key / 4 * 3;
            int other = 3 - of;
            run(0, with("#", key, "elect " + of + " = 3; ship " + of + " " + (of + 1) + " = 1; begin = 0; read 0 # = 0; "
                + "write 0 # 9 = true; commit 0 = 2; length " + of + " = 2; length " + other + " = 0; "
                + "snapshot " + of + " # 0 = 0; snapshot " + other + " # 0 = NONE"));
            run(0, with("#", key, "elect " + other + " = 3; ship " + other + " " + (other + 1) + " = 1; begin = 0; "
                + "read 0 # = DOWN; write 0 # 9 = true; commit 0 = DOWN"));
        }

        says("VALUES 0 .. 999");
        run(0, LEADERS + "begin = 0; write 0 0 -1 = false; write 0 0 1000 = false; write 0 0 " + LEAST + " = false; "
            + "write 0 0 " + MOST + " = false; write 0 0 0 = true; write 0 1 999 = true; write 0 2 1 = true; "
            + "write 0 3 998 = true; commit 0 = 2; ship 0 1 = 2; begin = 1; read 1 0 = 0; read 1 1 = 999; read 1 2 = 1; "
            + "read 1 3 = 998");

        says("every key has the value 0 at first");
        for (int key = 0; key < 8; key++) {
            run(0, with("#", key, LEADERS + "begin = 0; read 0 # = 0; snapshot " + key / 4 * 3 + " # 0 = 0"));
        }
    }

    private static void clocksAndLeases() {
        says("THE TIME is 0 at first");
        run(0, "tick 1 = 1");
        run(0, "elect 0 = 3; ship 0 1 = 1; safe 0 = 0");

        says("its SKEW (0 at first), which is not less than -EPS and not more than EPS");
        for (int eps = 0; eps <= 10; eps++) {
            run(eps, "elect 0 = 3; ship 0 1 = 1; safe 0 = " + eps);
            run(eps, "skew 0 " + eps + " = true; elect 0 = 3; ship 0 1 = 1; safe 0 = " + 2 * eps);
            run(eps, "skew 0 " + -eps + " = true; elect 0 = 3; ship 0 1 = 1; safe 0 = 0");
            run(eps, "skew 0 " + (eps + 1) + " = false; skew 0 " + (-eps - 1) + " = false; elect 0 = 3; ship 0 1 = 1; "
                + "safe 0 = " + eps);
        }

        says("A node that leads is ACTIVE when its latest is below its lease end");
        for (int eps = 0; eps <= 10; eps++) {
            for (int skew : new int[] {-eps, 0, eps}) {
                int last = 39 - 2 * eps;
                run(eps, "skew 0 " + skew + " = true; elect 0 = 3; ship 0 1 = 1; tick " + last + " = " + last
                    + "; leader 0 = 0; tick 1 = " + (last + 1) + "; leader 0 = NONE");
            }
        }
        run(5, "skew 0 -5 = true; elect 0 = 3; ship 0 1 = 1; skew 0 5 = true; tick 19 = 19; leader 0 = 0; tick 1 = 20; "
            + "leader 0 = NONE; skew 0 4 = true; leader 0 = 0");
        run(10, "skew 0 -10 = true; elect 0 = 3; ship 0 1 = 1; leader 0 = 0; skew 0 10 = true; leader 0 = NONE; "
            + "skew 0 9 = true; leader 0 = 0; tick 1 = 1; leader 0 = NONE; skew 0 8 = true; leader 0 = 0");
    }

    private static void statesOfNodes() {
        says("A NODE is UP at first");
        for (int node = 0; node < 6; node++) {
            run(0, with("#", node, "recover # = false; crash # = true; crash # = false; recover # = true"));
        }

        says("an EPOCH (0 at first)");
        run(0, "elect 0 = 3; elect 4 = 1");
        run(0, "elect 1 = 1; elect 5 = 2");
        run(0, "elect 2 = 2; elect 3 = 3");

        says("a PROMISE: a time and a node, or none (at first)");
        for (int node = 0; node < 3; node++) {
            run(10, "skew 0 -10 = true; skew 1 -10 = true; skew 2 -10 = true; elect " + node + " = "
                + (node == 0 ? 3 : node));
        }

        says("It leads no more when it crashes or gets a greater epoch");
        run(0, LEADERS + "crash 0 = true; recover 0 = true; leader 0 = NONE; beat 0 = NONE; ship 0 1 = NONE");
        run(0, LEADERS + "crash 1 = true; crash 2 = true; elect 0 = 0; leader 0 = NONE; beat 0 = NONE; recover 1 = true; "
            + "ship 0 1 = NONE");
        run(0, LEADERS + "tick 41 = 41; elect 1 = 4; beat 0 = NONE; ship 0 2 = NONE");
        run(0, "elect 0 = 3; crash 0 = true; tick 41 = 41; elect 1 = 4; recover 0 = true; beat 1 = 42; ship 1 0 = 1; "
            + "beat 0 = NONE; beat 1 = 43");
        run(0, "elect 0 = 3; ship 0 2 = 1; tick 41 = 41; crash 0 = true; elect 2 = 5; recover 0 = true; beat 2 = 42; "
            + "ship 2 0 = 2; elect 0 = 0; beat 2 = 43");

        says("READY when it is active and has an entry of its epoch as known");
        run(0, "elect 0 = 3; leader 0 = NONE; ship 0 1 = 1; leader 0 = 0; elect 0 = 6; leader 0 = NONE; known 0 = 1; "
            + "ship 0 1 = 2; leader 0 = 0");
        run(0, "elect 0 = 3; beat 0 = 1; elect 0 = 6; ship 0 2 = 1; leader 0 = NONE; ship 0 2 = 2; leader 0 = NONE; "
            + "ship 0 2 = 3; leader 0 = 0");

        says("(In a group at most one node is ready.)");
        run(0, "elect 0 = 3; ship 0 1 = 1; crash 2 = true; tick 41 = 41; recover 2 = true; ship 0 2 = 1; crash 2 = true; "
            + "elect 1 = 4; leader 0 = NONE; ship 1 0 = 2; leader 0 = 1; beat 0 = NONE");

        says("All of this but leading survives a crash");
        run(5, "skew 0 5 = true; elect 0 = 3; ship 0 1 = 1; beat 0 = 11; crash 0 = true; length 0 = 2; known 0 = 1; "
            + "safe 0 = 10; recover 0 = true; length 0 = 2; known 0 = 1; safe 0 = 10; elect 0 = 6; length 0 = 3");
        run(5, "skew 0 4 = true; crash 0 = true; recover 0 = true; elect 0 = 3; ship 0 1 = 1; safe 0 = 9");
        run(0, "elect 0 = 3; crash 1 = true; crash 2 = true; recover 1 = true; recover 2 = true; tick 40 = 40; elect 1 = 0; "
            + "tick 1 = 41; elect 1 = 4");
    }

    private static void fullLogs() {
        String writes = "begin = 0; begin = 1; write 0 0 1 = true; write 1 1 1 = true; ";
        says("It has a LOG of at most 60 entries");
        run(0, "elect 0 = 3; 58 x tick 1, beat 0; length 0 = 59; tick 1 = 59; beat 0 = 59; length 0 = 60; beat 0 = FULL; "
            + "length 0 = 60");
        run(0, "elect 0 = 3; 59 x tick 1, beat 0; 58 x ship 0 1; ship 0 1 = 59; known 0 = 59; ship 0 1 = 60; known 0 = 60; "
            + "known 1 = 60; ship 0 1 = 60; length 1 = 60; safe 1 = 59; ship 0 2 = 1");
        run(0, "elect 0 = 3; 58 x tick 1, beat 0; elect 0 = 6; length 0 = 60; elect 0 = 9; length 0 = 60; beat 0 = FULL");
        run(0, "elect 0 = 3; ship 0 1 = 1; 58 x tick 1, beat 0; " + writes + "commit 0 = 2; length 0 = 60; commit 1 = FULL; "
            + "length 0 = 60; state 1 = 0");
        run(0, LEADERS + "58 x tick 1, beat 0, beat 3; " + writes + "write 0 4 1 = true; write 1 5 1 = true; commit 0 = 1; "
            + "length 0 = 60; length 3 = 60; commit 1 = FULL; length 0 = 60; length 3 = 60");
        run(0, PREPARED + "57 x tick 1, beat 0, beat 3; length 0 = 59; step 0 = 2; length 0 = 60");
        run(0, PREPARED + "58 x tick 1, beat 0, beat 3; length 0 = 60; step 0 = FULL; length 0 = 60; state 0 = 1");
        run(0, COMMITTING + "57 x tick 1, beat 0, beat 3; length 3 = 59; step 0 = 3; step 0 = 3; length 3 = 60; begin = 1; "
            + "57 x ship 3 4; read 1 4 = WAIT; ship 3 4 = 60; read 1 4 = 8");
        run(0, COMMITTING + "58 x tick 1, beat 0, beat 3; length 3 = 60; step 0 = 3; step 0 = 3; length 3 = 60; begin = 1; "
            + "57 x ship 3 4; ship 3 4 = 60; read 1 4 = WAIT; stamp 0 = 2");

        says("Nothing can be WRITTEN by a node whose log has 60 entries (FULL), or, but for that");
        String fullAndLate = "tick 20 = 20; 20 x beat 0; length 0 = 60; ";
        run(0, "elect 0 = 3; 39 x beat 0; " + fullAndLate + "beat 0 = FULL");
        run(0, "elect 0 = 3; ship 0 1 = 1; 39 x beat 0; " + fullAndLate + writes + "commit 0 = FULL");
        run(0, PREPARED + "38 x beat 0; " + fullAndLate + "step 0 = FULL; state 0 = 1");
    }

    private static void stamps() {
        says("The stamp that an entry gets is the greatest of: the node's latest; the greatest of all stamps in its log .. plus 1");
        run(0, "elect 0 = 3; ship 0 1 = 1; safe 0 = 0; beat 0 = 1; beat 0 = 2; tick 2 = 2; beat 0 = 3; tick 2 = 4; "
            + "beat 0 = 4; tick 2 = 6; beat 0 = 6");
        run(5, "skew 0 5 = true; elect 0 = 3; skew 0 -5 = true; beat 0 = 11; tick 11 = 11; beat 0 = 12; tick 2 = 13; "
            + "beat 0 = 13; tick 2 = 15; beat 0 = 15");
        run(0, "elect 0 = 3; 9 x beat 0; 10 x ship 0 1; begin = 0; write 0 0 1 = true; commit 0 = 2; ship 0 1 = 11; "
            + "tick 10 = 10; step 0 = 2; tick 1 = 11; step 0 = 3; stamp 0 = 10");

        says("(if there are any)");
        run(0, "elect 3 = 3; ship 3 4 = 1; safe 3 = 0");
        run(7, "skew 4 -7 = true; elect 4 = 1; ship 4 3 = 1; safe 4 = 0");

        says("for COMMIT after two PREPAREs, the stamps of both");
        String ready = "begin = 0; write 0 0 7 = true; write 0 4 8 = true; commit 0 = 1; 9 x ship 0 1; 9 x ship 3 4; "
            + "step 0 = 2; 9 x ship 0 1; tick 30 = 30; step 0 = 3; ";
        run(0, LEADERS + ready + "stamp 0 = 2");
        run(0, LEADERS + "beat 3 = 1; " + ready + "stamp 0 = 2");
        run(0, LEADERS + "beat 3 = 1; beat 3 = 2; " + ready + "stamp 0 = 3");
        run(0, LEADERS + "7 x beat 3; " + ready + "stamp 0 = 8");
        run(0, LEADERS + "7 x beat 0; " + ready + "stamp 0 = 9");
        run(0, LEADERS + "5 x beat 0; 7 x beat 3; " + ready + "stamp 0 = 8");
        run(0, PREPARED + "tick 20 = 20; step 0 = 2; ship 0 1 = 3; tick 1 = 21; step 0 = 3; stamp 0 = 20");
    }

    private static void lateEntries() {
        says("when the stamp would not be below its lease end (LATE)");
        run(0, "elect 0 = 3; 38 x beat 0; beat 0 = 39; beat 0 = LATE; length 0 = 40; tick 1 = 1; beat 0 = 40; beat 0 = LATE");
        run(10, "elect 0 = 3; 18 x beat 0; beat 0 = 29; beat 0 = LATE; length 0 = 20; tick 1 = 1; beat 0 = 30; beat 0 = LATE");
        run(0, "elect 0 = 3; 38 x beat 0; elect 0 = 6; length 0 = 40; elect 0 = 9; length 0 = 40");
        String writes = "begin = 0; write 0 0 1 = true; ";
        run(0, LEADERS + "38 x beat 0; " + writes + "commit 0 = 2; length 0 = 40");
        run(0, LEADERS + "39 x beat 0; " + writes + "commit 0 = LATE; length 0 = 40; state 0 = 0");
        run(0, LEADERS + "38 x beat 0, beat 3; " + writes + "write 0 4 1 = true; commit 0 = 1; length 0 = 40; length 3 = 40");
        run(0, LEADERS + "39 x beat 0; " + writes + "write 0 4 1 = true; commit 0 = LATE; length 0 = 40; length 3 = 1");
        run(0, LEADERS + "39 x beat 3; " + writes + "write 0 4 1 = true; commit 0 = LATE; length 0 = 1; length 3 = 40");
        run(0, PREPARED + "37 x beat 0; step 0 = 2; length 0 = 40");
        run(0, PREPARED + "38 x beat 0; step 0 = LATE; length 0 = 40; state 0 = 1");
        run(0, LEADERS + "38 x beat 3; " + writes + "write 0 4 1 = true; commit 0 = 1; ship 0 1 = 2; 39 x ship 3 4; "
            + "step 0 = 2; ship 0 1 = 3; safe 0 = 39");
        run(0, LEADERS + "tick 1 = 1; 39 x beat 3; " + writes + "write 0 4 1 = true; commit 0 = 1; ship 0 1 = 2; "
            + "40 x ship 3 4; step 0 = LATE; state 0 = 1; length 0 = 2; beat 0 = 2; step 0 = 2; 2 x ship 0 1; safe 0 = 40");
        run(0, COMMITTING + "tick 3 = 3; step 0 = 3; 39 x beat 3; length 3 = 41; step 0 = 3; length 3 = 42");
        run(0, COMMITTING + "tick 3 = 3; step 0 = 3; 40 x beat 3; length 3 = 42; step 0 = 3; length 3 = 42");
    }

    private static void transactionsAndHolds() {
        says("TRANSACTIONS 0 .. 15 are numbered as they are begun");
        run(0, LEADERS + "begin = 0; begin = 1; abort 1 = true; begin = 2; 12 x begin; begin = 15; state 15 = 0; "
            + "write 15 7 1 = true; read 15 7 = 1; commit 15 = 2; step 15 = 2; stamp 15 = 0; abort 0 = true");
        for (int t : new int[] {LEAST, -16, -1, 16, 17, MOST}) {
            run(0, with("#", t, LEADERS + "16 x begin; read # 0 = NONE; write # 0 1 = false; commit # = NONE; "
                + "abort # = false; step # = NONE; state # = NONE; stamp # = NONE"));
        }
        for (int t = 0; t < 16; t++) {
            String begun = t == 0 ? LEADERS : LEADERS + t + " x begin; ";
            run(0, with("#", t, begun + "read # 0 = NONE; write # 0 1 = false; commit # = NONE; abort # = false; "
                + "step # = NONE; state # = NONE; stamp # = NONE; begin = #; read # 0 = 0; write # 0 1 = true; "
                + "state # = 0; stamp # = 0; step # = 0; commit # = 2"));
        }

        says("a lower number is OLDER");
        run(0, LEADERS + "16 x begin; read 14 0 = 0; write 15 0 1 = true; commit 15 = WAIT; write 13 0 2 = true; "
            + "commit 13 = 2; state 14 = 4; state 15 = 0; commit 15 = WAIT; ship 0 1 = 2; commit 15 = 2");

        says("what it writes (one value for each key, the last one)");
        run(0, LEADERS + "begin = 0; write 0 0 5 = true; write 0 1 6 = true; write 0 0 0 = true; commit 0 = 2; ship 0 1 = 2; "
            + "begin = 1; read 1 0 = 0; read 1 1 = 6");

        says("for each group the epoch of the ready node at which it read there first");
        run(0, LEADERS + "begin = 0; read 0 4 = 0; elect 0 = 6; ship 0 1 = 2; read 0 0 = 0; read 0 5 = 0; read 0 1 = 0; "
            + "commit 0 = 3");
        run(0, LEADERS + "begin = 0; read 0 0 = 0; read 0 4 = 0; elect 3 = 6; ship 3 4 = 2; read 0 1 = 0; read 0 4 = OVER; "
            + "state 0 = 4");

        says("It HOLDS what it read in a group as long as a node of that epoch is ready there");
        run(0, LEADERS + "begin = 0; read 0 0 = 0; tick 39 = 39; commit 0 = 3");
        run(0, LEADERS + "begin = 0; read 0 0 = 0; tick 40 = 40; commit 0 = DOWN");
        run(0, LEADERS + "begin = 0; read 0 0 = 0; ship 0 2 = 1; crash 0 = true; tick 41 = 41; elect 1 = 4; commit 0 = DOWN; "
            + "ship 1 2 = 2; commit 0 = 4");

        says("Its groups are those in which it read or writes");
        run(0, LEADERS + "begin = 0; read 0 0 = 0; write 0 4 1 = true; commit 0 = 1; length 0 = 2; length 3 = 2");
        run(0, LEADERS + "begin = 0; read 0 7 = 0; write 0 3 1 = true; commit 0 = 1; length 0 = 2; length 3 = 2");
        run(0, LEADERS + "begin = 0; write 0 3 1 = true; commit 0 = 2; length 0 = 2; length 3 = 1");
        run(0, "elect 0 = 3; ship 0 1 = 1; begin = 0; read 0 4 = DOWN; write 0 0 1 = true; commit 0 = 2");
        run(0, LEADERS + "begin = 0; write 0 4 1 = true; commit 0 = 2; begin = 1; read 1 4 = WAIT; write 1 0 1 = true; "
            + "commit 1 = 2");
        run(0, "begin = 0; commit 0 = 3");
    }

    private static void locksOfLogs() {
        says("THE LOG HOLDS .. when the node's log has its PREPARE and not, as known, its COMMIT or OUTCOME");
        run(0, LEADERS + "begin = 0; write 0 0 7 = true; write 0 4 8 = true; commit 0 = 1; begin = 1; read 1 0 = WAIT; "
            + "read 1 4 = WAIT; ship 0 1 = 2; ship 3 4 = 2; read 1 0 = WAIT; read 1 4 = WAIT; step 0 = 2; read 1 0 = WAIT; "
            + "read 1 4 = WAIT; ship 0 1 = 3; read 1 0 = 7; read 1 4 = WAIT; tick 3 = 3; step 0 = 3; read 1 4 = WAIT; "
            + "step 0 = 3; read 1 4 = WAIT; ship 3 4 = 3; read 1 4 = 8");
        run(0, PREPARED + "begin = 1; write 1 0 1 = true; begin = 2; write 2 4 1 = true; commit 1 = WAIT; commit 2 = WAIT; "
            + "step 0 = 2; commit 1 = WAIT; ship 0 1 = 3; commit 1 = 2; commit 2 = WAIT; tick 3 = 3; step 0 = 3; step 0 = 3; "
            + "commit 2 = WAIT; ship 3 4 = 3; commit 2 = 2");
        run(0, LEADERS + "begin = 0; write 0 0 1 = true; write 0 4 2 = true; commit 0 = 1; ship 3 4 = 2; crash 0 = true; "
            + "tick 41 = 41; beat 3 = 41; elect 1 = 4; ship 1 2 = 1; ship 1 2 = 2; step 0 = 4; begin = 1; read 1 4 = WAIT; "
            + "step 0 = 4; read 1 4 = WAIT; ship 3 4 = 3; read 1 4 = WAIT; ship 3 4 = 4; read 1 4 = 0");

        says("or has its COMMIT and not as known");
        run(0, LEADERS + "begin = 0; read 0 1 = 0; write 0 0 7 = true; commit 0 = 2; begin = 1; write 1 0 1 = true; begin = 2; "
            + "write 2 1 1 = true; read 1 2 = 0; commit 1 = WAIT; commit 2 = WAIT; tick 9 = 9; step 0 = 2; commit 1 = WAIT; "
            + "ship 0 1 = 2; commit 2 = 2; commit 1 = 2; state 0 = 2");

        says("the keys of its group that the transaction read or writes");
        run(0, LEADERS + "begin = 0; read 0 1 = 0; read 0 5 = 0; write 0 0 7 = true; write 0 4 8 = true; commit 0 = 1; "
            + "4 x begin; write 1 1 1 = true; commit 1 = WAIT; write 2 5 1 = true; commit 2 = WAIT; write 3 2 1 = true; "
            + "commit 3 = 2; write 4 6 1 = true; commit 4 = 2");
    }

    private static void versionsAndSafeTimes() {
        says("A node's VERSIONS of a key are, in the order of its known entries, those of COMMITs");
        run(0, LEADERS + "begin = 0; write 0 0 7 = true; commit 0 = 2; ship 0 1 = 2; ship 0 2 = 1; snapshot 0 0 1 = 7; "
            + "snapshot 1 0 1 = 7; snapshot 2 0 0 = 0; snapshot 2 0 1 = WAIT; ship 0 2 = 2; snapshot 2 0 1 = 7; state 0 = 2");

        says("and of OUTCOMEs with a stamp");
        run(0, COMMITTING + "tick 5 = 5; step 0 = 3; step 0 = 3; ship 3 4 = 3; safe 3 = 5; snapshot 3 4 1 = 0; "
            + "snapshot 3 4 2 = 8; snapshot 4 4 5 = 8; snapshot 0 0 1 = 0; snapshot 0 0 2 = 7");
        run(0, LEADERS + "begin = 0; write 0 0 1 = true; write 0 4 2 = true; commit 0 = 1; ship 3 4 = 2; crash 0 = true; "
            + "tick 41 = 41; beat 3 = 41; elect 1 = 4; ship 1 2 = 1; ship 1 2 = 2; step 0 = 4; step 0 = 4; 2 x ship 3 4; "
            + "safe 3 = 42; snapshot 3 4 42 = 0; begin = 1; read 1 4 = 0");

        says("of transactions that write this key");
        run(0, LEADERS + "begin = 0; read 0 1 = 0; write 0 0 7 = true; commit 0 = 2; ship 0 1 = 2; begin = 1; read 1 1 = 0; "
            + "read 1 0 = 7; read 1 3 = 0; snapshot 0 1 1 = 0; snapshot 0 3 1 = 0");
        run(0, LEADERS + "begin = 0; write 0 1 7 = true; commit 0 = 2; ship 0 1 = 2; begin = 1; read 1 1 = 7; "
            + "write 1 4 8 = true; commit 1 = 1; ship 0 1 = 3; ship 3 4 = 2; step 1 = 2; ship 0 1 = 4; begin = 2; read 2 1 = 7");

        says("SAFE is .. NONE when no entry is known");
        run(0, "safe 0 = NONE; elect 0 = 3; length 0 = 1; safe 0 = NONE; ship 0 1 = 1; safe 0 = 0; safe 1 = 0; safe 2 = NONE");

        says("SAFE is, for a node, the stamp of its last known entry");
        run(0, LEADERS + "beat 0 = 1; tick 9 = 9; beat 0 = 9; safe 0 = 0; ship 0 1 = 2; safe 0 = 1; safe 1 = 1; ship 0 1 = 3; "
            + "safe 0 = 9; safe 1 = 9; ship 0 2 = 1; safe 2 = 0");

        says("but less than the stamp of each PREPARE that it has as known without having as known that transaction's COMMIT");
        run(0, LEADERS + "beat 0 = 1; begin = 0; write 0 0 7 = true; write 0 4 8 = true; commit 0 = 1; beat 0 = 3; safe 0 = 0; "
            + "ship 0 1 = 2; safe 0 = 1; ship 0 1 = 3; safe 0 = 1; ship 0 1 = 4; safe 0 = 1; ship 3 4 = 2; safe 3 = 0");
        run(0, PREPARED + "safe 0 = 0; step 0 = 2; safe 0 = 0; ship 0 2 = 1; ship 0 2 = 2; safe 2 = 0; ship 0 2 = 3; "
            + "safe 0 = 2; safe 2 = 2; safe 1 = 0; ship 0 1 = 3; safe 1 = 2; safe 3 = 0; tick 3 = 3; step 0 = 3; step 0 = 3; "
            + "safe 3 = 0; ship 3 4 = 3; safe 3 = 3; safe 4 = 3");

        says("(one less than the least of these, if that is less)");
        run(0, LEADERS + "begin = 0; begin = 1; tick 5 = 5; write 0 0 1 = true; write 0 4 1 = true; write 1 1 1 = true; "
            + "write 1 5 1 = true; commit 1 = 1; tick 5 = 10; commit 0 = 1; ship 0 1 = 2; safe 0 = 4; ship 0 1 = 3; safe 0 = 4; "
            + "ship 3 4 = 2; ship 3 4 = 3; step 1 = 2; ship 0 1 = 4; safe 0 = 9; step 0 = 2; ship 0 1 = 5; safe 0 = 12");
    }

    private static void newObjectAndTick() {
        says("EPS is eps, if that is 0 .. 10, otherwise 5");
        for (int eps = 0; eps <= 10; eps++) {
            run(eps, "skew 3 " + eps + " = true; skew 3 " + (eps + 1) + " = false; skew 3 " + -eps + " = true; skew 3 "
                + (-eps - 1) + " = false; elect 0 = 3; ship 0 1 = 1; safe 0 = " + eps);
        }
        for (int eps : new int[] {LEAST, -11, -10, -5, -1, 11, 12, 20, MOST}) {
            run(eps, "skew 3 5 = true; skew 3 6 = false; skew 3 -5 = true; skew 3 -6 = false; elect 0 = 3; ship 0 1 = 1; "
                + "safe 0 = 5; tick 29 = 29; leader 0 = 0; tick 1 = 30; leader 0 = NONE");
        }

        says("All nodes up, empty logs, no leaders");
        for (int node = 0; node < 6; node++) {
            run(5, with("#", node, "length # = 0; known # = 0; safe # = NONE; beat # = NONE; recover # = false; crash # = true"));
        }
        run(5, "leader 0 = NONE; leader 1 = NONE; state 0 = NONE; ship 0 1 = NONE; ship 3 4 = NONE");

        says("The time grows by n. Answers the time; NONE when n is not 1 .. 50");
        run(5, "tick 0 = NONE; tick 1 = 1; tick 50 = 51; tick 51 = NONE; tick -1 = NONE; tick 49 = 100; tick -50 = NONE; "
            + "tick " + LEAST + " = NONE; tick " + MOST + " = NONE; tick 2 = 102");
    }

    private static void skewCrashRecover() {
        says("skew: False when there is no such node, or s is not -EPS .. EPS");
        run(3, "skew 5 3 = true; skew 5 -3 = true; skew 5 4 = false; skew 5 -4 = false; skew 5 " + LEAST + " = false; skew 5 "
            + MOST + " = false; skew -1 0 = false; skew 6 0 = false; elect 5 = 2; ship 5 3 = 1; safe 5 = 0");
        run(3, "crash 5 = true; skew 5 3 = true; skew 5 4 = false; recover 5 = true; elect 5 = 2; ship 5 3 = 1; safe 5 = 6");

        says("crash: False when there is no such node, or it is down");
        run(0, "crash 5 = true; crash 5 = false; crash 6 = false; crash -1 = false; recover 5 = true; crash 5 = true; "
            + "crash 0 = true; crash 0 = false");

        says("recover: False when there is no such node, or it is up");
        run(0, "recover 0 = false; recover 6 = false; recover -1 = false; crash 0 = true; recover 1 = false; recover 0 = true; "
            + "recover 0 = false; elect 0 = 3");
    }

    private static void electAsks() {
        says("the least number above its epoch with the same remainder by 3 as n");
        run(0, "elect 0 = 3; elect 0 = 6; elect 0 = 9");
        run(0, "elect 1 = 1; elect 1 = 4; elect 4 = 1; elect 4 = 4");
        run(0, "elect 2 = 2; elect 2 = 5; elect 5 = 2; elect 5 = 5");
        run(0, "elect 0 = 3; crash 0 = true; tick 41 = 41; elect 1 = 4; crash 1 = true; recover 0 = true; tick 41 = 82; "
            + "crash 2 = true; elect 0 = 0; elect 0 = 0; recover 2 = true; elect 0 = 12");
        run(0, "elect 0 = 3; crash 0 = true; tick 41 = 41; elect 2 = 5");
        run(0, "elect 2 = 2; crash 2 = true; tick 41 = 41; elect 1 = 4");
        run(0, "elect 2 = 2; crash 2 = true; tick 41 = 41; elect 0 = 3");
        run(0, "elect 1 = 1; crash 1 = true; tick 41 = 41; elect 0 = 3");
        run(0, "elect 1 = 1; crash 1 = true; tick 41 = 41; elect 2 = 2");

        says("Each node m of its group that is up");
        run(0, "crash 1 = true; elect 0 = 3; crash 2 = true; elect 0 = 0; recover 1 = true; elect 0 = 9");
        run(0, "crash 2 = true; elect 0 = 3; recover 2 = true; crash 0 = true; crash 1 = true; elect 2 = 0; recover 1 = true; "
            + "elect 2 = 0; tick 41 = 41; elect 2 = 8");
        run(0, "crash 4 = true; crash 5 = true; elect 3 = 0; elect 0 = 3");

        says("GRANTS it when m's epoch is below e");
        run(0, "crash 0 = true; crash 1 = true; 3 x elect 2; recover 1 = true; tick 41 = 41; elect 1 = 0; elect 1 = 0; "
            + "elect 1 = 0; elect 1 = 10");
        run(5, "elect 0 = 3; ship 0 1 = 1; skew 0 5 = true; skew 2 5 = true; skew 1 -5 = true; tick 46 = 46; elect 1 = 0; "
            + "beat 0 = NONE; tick 10 = 56; elect 1 = 0; elect 1 = 7");

        says("NONE when there is no such node or it is down");
        run(0, "elect 6 = NONE; elect -1 = NONE; crash 3 = true; elect 3 = NONE; recover 3 = true; elect 3 = 3");
    }

    private static void electPromises() {
        says("m has no promise or its earliest is above its promise's time");
        for (int eps = 0; eps <= 10; eps++) {
            int last = 40 + 2 * eps;
            String ticks = "tick 40; tick " + 2 * eps + "; ";
            run(eps, "elect 0 = 3; crash 0 = true; " + ticks + "elect 1 = 0; tick 1 = " + (last + 1) + "; elect 1 = 4");
            run(eps, "elect 0 = 3; crash 0 = true; " + ticks + "elect 2 = 0; tick 1 = " + (last + 1) + "; elect 2 = 5");
        }
        run(5, "elect 0 = 3; crash 0 = true; skew 1 5 = true; skew 2 5 = true; tick 45 = 45; elect 1 = 0; tick 1 = 46; "
            + "elect 1 = 4");
        run(5, "elect 0 = 3; crash 0 = true; skew 1 5 = true; tick 46 = 46; elect 1 = 0; tick 4 = 50; elect 1 = 0; tick 1 = 51; "
            + "elect 1 = 10");

        says("or the promise is to n");
        run(0, "elect 0 = 3; crash 1 = true; elect 0 = 6; crash 0 = true; recover 0 = true; elect 0 = 9; tick 1 = 1; "
            + "elect 0 = 12");

        says("its promise is to n, until its latest plus LEASE");
        run(5, "skew 1 5 = true; skew 2 5 = true; elect 0 = 3; crash 0 = true; tick 50 = 50; elect 1 = 0; tick 1 = 51; "
            + "elect 1 = 4");
        run(5, "skew 1 -5 = true; skew 2 -5 = true; elect 0 = 3; crash 0 = true; tick 50 = 50; elect 1 = 0; tick 1 = 51; "
            + "elect 1 = 4");
        run(0, "elect 0 = 3; tick 7 = 7; elect 0 = 6; crash 0 = true; tick 40 = 47; elect 1 = 0; tick 1 = 48; elect 1 = 7");
        run(0, "elect 0 = 3; ship 0 1 = 1; ship 0 2 = 1; crash 0 = true; tick 41 = 41; elect 1 = 4; crash 1 = true; "
            + "recover 0 = true; tick 40 = 81; elect 2 = 0; tick 1 = 82; elect 2 = 0; elect 2 = 8");

        says("(or the time of the promise that it had, if that is later)");
        run(5, "skew 1 5 = true; skew 2 5 = true; elect 0 = 3; skew 1 -5 = true; skew 2 -5 = true; elect 0 = 6; crash 0 = true; "
            + "skew 1 5 = true; skew 2 5 = true; tick 50 = 50; elect 1 = 0; tick 1 = 51; elect 1 = 7");
        run(5, "skew 1 5 = true; skew 2 5 = true; elect 0 = 3; skew 1 -5 = true; skew 2 -5 = true; tick 10 = 10; elect 0 = 6; "
            + "crash 0 = true; skew 1 5 = true; skew 2 5 = true; tick 40 = 50; elect 1 = 0; tick 1 = 51; elect 1 = 7");
        run(5, "skew 1 5 = true; skew 2 5 = true; elect 0 = 3; skew 1 -5 = true; skew 2 -5 = true; tick 11 = 11; elect 0 = 6; "
            + "crash 0 = true; skew 1 5 = true; skew 2 5 = true; tick 40 = 51; elect 1 = 0; tick 1 = 52; elect 1 = 7");
    }

    private static void electBehind() {
        says("its last entry's epoch (0 when it has none) is not less than that of m's");
        run(0, "elect 0 = 3; ship 0 1 = 1; crash 0 = true; tick 41 = 41; elect 2 = 0; elect 2 = 0; tick 41 = 82; elect 1 = 0; "
            + "elect 1 = 0; elect 1 = 10");
        run(0, "elect 0 = 3; beat 0 = 1; beat 0 = 2; crash 0 = true; tick 41 = 41; elect 1 = 4; recover 0 = true; tick 41 = 82; "
            + "crash 2 = true; elect 0 = 0; length 0 = 3; crash 0 = true; recover 0 = true; elect 1 = 0; tick 41 = 123; "
            + "elect 1 = 10; ship 1 0 = 1");
        run(0, "crash 1 = true; elect 0 = 3; recover 1 = true; crash 0 = true; tick 41 = 41; elect 1 = 0; elect 1 = 4");

        says("and when they are the same it is not shorter");
        run(0, "elect 0 = 3; ship 0 1 = 1; ship 0 2 = 1; beat 0 = 1; ship 0 1 = 2; crash 0 = true; tick 41 = 41; elect 2 = 0; "
            + "elect 2 = 0; tick 41 = 82; elect 1 = 0; elect 1 = 0; elect 1 = 10");
        run(0, "elect 0 = 3; ship 0 1 = 1; ship 0 2 = 1; beat 0 = 1; ship 0 1 = 2; ship 0 2 = 2; crash 0 = true; tick 41 = 41; "
            + "elect 2 = 5");
        run(0, "elect 0 = 3; ship 0 1 = 1; beat 0 = 1; ship 0 1 = 2; crash 0 = true; ship 0 2 = NONE; tick 41 = 41; "
            + "elect 1 = 4; length 1 = 3");
    }

    private static void electLeads() {
        says("If n and at least one other granted it, n leads e");
        run(0, "crash 2 = true; elect 0 = 3; beat 0 = 1");
        run(0, "crash 1 = true; elect 0 = 3; beat 0 = 1");
        run(0, "elect 0 = 3; beat 0 = 1");
        run(0, "crash 1 = true; crash 2 = true; elect 0 = 0; beat 0 = NONE; length 0 = 0");
        run(5, "elect 0 = 3; ship 0 1 = 1; skew 0 5 = true; skew 2 5 = true; skew 1 -5 = true; tick 46 = 46; elect 1 = 0; "
            + "beat 1 = NONE; length 1 = 1");

        says("its lease end is its earliest, as it was, plus LEASE");
        run(5, "skew 0 5 = true; elect 0 = 3; skew 0 -5 = true; elect 0 = 6; 2 x ship 0 1; tick 29 = 29; leader 0 = 0; "
            + "tick 1 = 30; leader 0 = NONE");
        run(5, "skew 0 -5 = true; elect 0 = 3; skew 0 5 = true; elect 0 = 6; 2 x ship 0 1; skew 0 -5 = true; tick 39 = 39; "
            + "leader 0 = 0; tick 1 = 40; leader 0 = NONE");

        says("and it writes a BEAT, if that can be written");
        run(0, "elect 0 = 3; length 0 = 1; elect 0 = 6; length 0 = 2; length 1 = 0");
        run(0, "elect 0 = 3; 39 x beat 0; length 0 = 40; elect 0 = 6; length 0 = 40; 40 x ship 0 1; known 0 = 0; "
            + "leader 0 = NONE; tick 1 = 1; beat 0 = 40; ship 0 1 = 41; leader 0 = 0");
        run(0, "elect 0 = 3; 59 x tick 1, beat 0; elect 0 = 6; length 0 = 60; 60 x ship 0 1; length 1 = 60; known 0 = 0; "
            + "leader 0 = NONE");

        says("Answers e; 0 when it does not lead (the grants remain)");
        run(0, "crash 0 = true; crash 1 = true; elect 2 = 0; recover 1 = true; elect 1 = 0; elect 1 = 0; tick 40 = 40; "
            + "elect 1 = 0; tick 1 = 41; elect 1 = 10");
        run(0, "crash 1 = true; crash 2 = true; elect 0 = 0; recover 1 = true; elect 0 = 6");
        run(5, "elect 0 = 3; ship 0 1 = 1; skew 0 5 = true; skew 2 5 = true; skew 1 -5 = true; tick 46 = 46; elect 1 = 0; "
            + "ship 0 1 = NONE; elect 0 = 0; elect 2 = 0");
    }

    private static void beatAsks() {
        says("asks the nodes of its group that are up, itself too, and have its epoch");
        run(0, "elect 0 = 3; crash 2 = true; tick 10 = 10; beat 0 = 10; crash 0 = true; recover 2 = true; tick 31 = 41; "
            + "elect 2 = 0; tick 10 = 51; elect 2 = 8");
        run(0, "elect 0 = 3; tick 10 = 10; beat 0 = 10; crash 0 = true; tick 31 = 41; elect 2 = 0; tick 10 = 51; elect 2 = 5");
        run(0, "crash 2 = true; elect 0 = 3; recover 2 = true; tick 10 = 10; beat 0 = 10; crash 0 = true; elect 2 = 0; "
            + "tick 41 = 51; elect 2 = 5");
        run(0, "elect 0 = 3; crash 1 = true; crash 2 = true; tick 10 = 10; beat 0 = 10; recover 1 = true; tick 31 = 41; "
            + "elect 1 = 0; tick 9 = 50; elect 1 = 0; tick 1 = 51; elect 1 = 0; tick 31 = 82; crash 0 = true; recover 2 = true; "
            + "elect 1 = 13");

        says("the promise of each of them is to it then");
        run(0, "crash 0 = true; crash 1 = true; elect 2 = 0; recover 0 = true; recover 1 = true; elect 0 = 3; ship 0 2 = 1; "
            + "crash 1 = true; beat 0 = 1; elect 0 = 6");
        run(0, "crash 0 = true; crash 1 = true; elect 2 = 0; recover 0 = true; recover 1 = true; elect 0 = 3; ship 0 2 = 1; "
            + "crash 1 = true; elect 0 = 0");

        says("until that one's latest plus LEASE (or the time of the promise that it had, if that is later)");
        run(0, "elect 0 = 3; tick 10 = 10; beat 0 = 10; crash 0 = true; tick 40 = 50; elect 1 = 0; tick 1 = 51; elect 1 = 4");
        run(5, "elect 0 = 3; skew 1 5 = true; skew 2 5 = true; beat 0 = 6; crash 0 = true; tick 50 = 50; elect 1 = 0; "
            + "tick 1 = 51; elect 1 = 4");
        run(5, "skew 1 5 = true; skew 2 5 = true; elect 0 = 3; skew 1 -5 = true; skew 2 -5 = true; tick 10 = 10; beat 0 = 15; "
            + "crash 0 = true; skew 1 5 = true; skew 2 5 = true; tick 40 = 50; elect 1 = 0; tick 1 = 51; elect 1 = 4");

        says("if there are at least two, its lease end becomes its earliest plus LEASE");
        run(0, LEADERS + "tick 10 = 10; beat 0 = 10; tick 39 = 49; leader 0 = 0; tick 1 = 50; leader 0 = NONE");
        run(0, LEADERS + "crash 2 = true; tick 10 = 10; beat 0 = 10; tick 39 = 49; leader 0 = 0; tick 1 = 50; leader 0 = NONE");
        run(0, LEADERS + "crash 1 = true; crash 2 = true; tick 10 = 10; beat 0 = 10; tick 29 = 39; leader 0 = 0; tick 1 = 40; "
            + "leader 0 = NONE");
        run(0, "crash 3 = true; elect 4 = 1; ship 4 5 = 1; tick 10 = 10; beat 4 = 10; tick 39 = 49; leader 1 = 4; tick 1 = 50; "
            + "leader 1 = NONE");

        says("if that is later");
        run(5, "skew 0 5 = true; elect 0 = 3; ship 0 1 = 1; skew 0 -5 = true; beat 0 = 11; tick 39 = 39; leader 0 = 0; "
            + "tick 1 = 40; leader 0 = NONE");
        run(5, "skew 0 5 = true; elect 0 = 3; ship 0 1 = 1; skew 0 -5 = true; tick 11 = 11; beat 0 = 11; tick 29 = 40; "
            + "leader 0 = 0; tick 1 = 41; leader 0 = NONE");

        says("Then it writes a BEAT. Answers the BEAT's stamp");
        run(0, "elect 0 = 3; beat 0 = 1; length 0 = 2; length 1 = 0; tick 40 = 40; beat 0 = 40; length 0 = 3");
    }

    private static void beatRefused() {
        says("beat: NONE when there is no such node, it is down or does not lead (nothing changes)");
        run(0, "beat 0 = NONE; elect 0 = 3; beat 1 = NONE; beat 2 = NONE; beat 3 = NONE; beat 6 = NONE; beat -1 = NONE; "
            + "crash 0 = true; beat 0 = NONE; recover 0 = true; beat 0 = NONE; length 0 = 1");
        run(0, "elect 0 = 3; crash 0 = true; recover 0 = true; tick 10 = 10; beat 0 = NONE; beat 1 = NONE; tick 31 = 41; "
            + "elect 1 = 4");

        says("LATE, when it is not active then");
        run(0, LEADERS + "crash 1 = true; crash 2 = true; tick 39 = 39; beat 0 = 39; tick 1 = 40; beat 0 = LATE; length 0 = 2; "
            + "recover 2 = true; beat 0 = 40; length 0 = 3");
        run(10, "skew 0 -10 = true; elect 0 = 3; ship 0 1 = 1; skew 0 10 = true; leader 0 = NONE; beat 0 = 20; leader 0 = 0");
        run(0, "elect 0 = 3; 59 x tick 1, beat 0; crash 1 = true; crash 2 = true; tick 39 = 98; beat 0 = FULL; tick 1 = 99; "
            + "beat 0 = LATE");

        says("FULL; LATE");
        run(0, "elect 0 = 3; 39 x beat 0; tick 20 = 20; 20 x beat 0; length 0 = 60; beat 0 = FULL; tick 1 = 21; beat 0 = FULL");
        run(0, "elect 0 = 3; 39 x beat 0; tick 20 = 20; 19 x beat 0; length 0 = 59; beat 0 = 59; beat 0 = FULL");
        run(0, "elect 0 = 3; 39 x beat 0; tick 19 = 19; 19 x beat 0; length 0 = 59; beat 0 = LATE; length 0 = 59");
    }

    private static void shipCutsAndAdds() {
        says("When that one's epoch is greater: STALE, and it leads no more");
        run(0, "crash 2 = true; elect 0 = 3; ship 0 1 = 1; recover 2 = true; elect 2 = 0; ship 0 2 = 1; elect 2 = 0; "
            + "ship 0 2 = STALE; length 2 = 1; leader 0 = NONE; beat 0 = NONE; ship 0 2 = NONE; ship 0 1 = NONE");
        run(0, "crash 2 = true; elect 0 = 3; ship 0 1 = 1; recover 2 = true; 2 x elect 2; ship 0 1 = 1; ship 0 2 = STALE; "
            + "length 2 = 0; elect 0 = 6");
        run(0, "elect 0 = 3; ship 0 1 = 1; ship 0 1 = 1; beat 0 = 1");

        says("Otherwise the other one has its epoch from then on");
        run(0, "crash 2 = true; elect 0 = 3; ship 0 1 = 1; recover 2 = true; crash 1 = true; tick 40 = 40; beat 0 = LATE; "
            + "ship 0 2 = 1; beat 0 = 40");
        run(0, "crash 1 = true; elect 0 = 3; recover 1 = true; ship 0 1 = 1; crash 0 = true; tick 41 = 41; elect 1 = 4");
        run(0, "crash 1 = true; elect 0 = 3; recover 1 = true; crash 0 = true; tick 41 = 41; elect 1 = 0; elect 1 = 4");

        says("its log is cut behind the first entries that are the same in both");
        run(0, "elect 0 = 3; ship 0 1 = 1; beat 0 = 1; beat 0 = 2; crash 0 = true; tick 41 = 41; elect 1 = 4; recover 0 = true; "
            + "length 0 = 3; ship 1 0 = 2; length 0 = 2; known 0 = 2; safe 0 = 41; ship 1 0 = 2");
        run(0, "elect 0 = 3; beat 0 = 1; beat 0 = 2; crash 0 = true; tick 41 = 41; elect 1 = 4; recover 0 = true; length 0 = 3; "
            + "ship 1 0 = 1; safe 0 = 41");
        run(0, "elect 0 = 3; 3 x beat 0; 3 x ship 0 1; crash 0 = true; tick 41 = 41; elect 1 = 4; recover 0 = true; "
            + "length 0 = 4; ship 1 0 = 4; safe 0 = 41; known 0 = 4; snapshot 0 0 41 = 0");
        run(0, LEADERS + "begin = 0; write 0 0 7 = true; commit 0 = 2; crash 0 = true; tick 41 = 41; elect 1 = 4; "
            + "recover 0 = true; ship 1 0 = 2; known 0 = 2; snapshot 0 0 41 = 0; leader 0 = 1; step 0 = 4");

        says("Two entries at the same place of two logs are the same when their epochs are equal");
        run(0, "elect 0 = 3; 2 x ship 0 1; 4 x beat 0; 4 x ship 0 1; ship 0 1 = 5; ship 0 1 = 5; ship 0 2 = 1; ship 0 2 = 2; "
            + "length 1 = 5; known 1 = 5");

        says("then the next entry of the leading node's log, if there is one, is added");
        run(0, "elect 0 = 3; beat 0 = 1; beat 0 = 2; ship 0 1 = 1; ship 0 1 = 2; ship 0 1 = 3; ship 0 1 = 3; length 1 = 3; "
            + "length 2 = 0; ship 0 2 = 1");
        run(0, "elect 0 = 3; 39 x beat 0; elect 0 = 6; crash 0 = true; tick 41 = 41; elect 1 = 7; recover 0 = true; "
            + "ship 1 0 = 1; length 0 = 1");
    }

    private static void shipKnown() {
        says("the leading node has as known all entries up to the last one of its epoch that is in the logs of at least two nodes");
        run(0, "elect 0 = 3; beat 0 = 1; known 0 = 0; ship 0 1 = 1; known 0 = 1; ship 0 2 = 1; known 0 = 1; ship 0 2 = 2; "
            + "known 0 = 2; known 2 = 2; known 1 = 1");
        run(0, "elect 0 = 3; beat 0 = 1; elect 0 = 6; ship 0 1 = 1; known 0 = 0; known 1 = 0; ship 0 1 = 2; known 0 = 0; "
            + "ship 0 1 = 3; known 0 = 3; known 1 = 3");
        run(0, "elect 0 = 3; beat 0 = 1; ship 0 1 = 1; ship 0 1 = 2; crash 0 = true; tick 41 = 41; elect 1 = 4; known 1 = 2; "
            + "ship 1 2 = 1; known 2 = 1; ship 1 2 = 2; known 2 = 2; known 1 = 2; ship 1 2 = 3; known 1 = 3; known 2 = 3");

        says("(if that is more than before)");
        run(0, "elect 0 = 3; beat 0 = 1; 2 x ship 0 1; known 0 = 2; elect 0 = 6; ship 0 2 = 1; known 0 = 2; known 2 = 1; "
            + "ship 0 1 = 3; known 0 = 3; ship 0 2 = 2; known 0 = 3; known 2 = 2");
        run(0, "elect 0 = 3; beat 0 = 1; 2 x ship 0 1; crash 0 = true; tick 41 = 41; elect 1 = 4; ship 1 2 = 1; known 1 = 2; "
            + "crash 1 = true; recover 0 = true; known 0 = 2");

        says("and the other one as many as the leading one, as far as its log goes");
        run(0, "elect 0 = 3; 3 x beat 0; 4 x ship 0 1; known 0 = 4; ship 0 2 = 1; known 2 = 1; ship 0 2 = 2; known 2 = 2; "
            + "ship 0 2 = 3; ship 0 2 = 4; known 2 = 4; ship 0 2 = 4; known 2 = 4");
        run(0, "elect 0 = 3; beat 0 = 1; ship 0 1 = 1; ship 0 2 = 1; ship 0 2 = 2; known 1 = 1; known 0 = 2; ship 0 1 = 2; "
            + "known 1 = 2");
    }

    private static void shipRefused() {
        says("ship: NONE when there are no such two nodes, they are the same or of different groups, one is down");
        run(0, LEADERS + "ship 0 0 = NONE; ship 0 3 = NONE; ship 0 5 = NONE; ship 3 2 = NONE; ship 0 6 = NONE; ship 0 -1 = NONE; "
            + "ship 6 0 = NONE; ship -1 0 = NONE; crash 2 = true; ship 0 2 = NONE; crash 0 = true; ship 0 1 = NONE; "
            + "recover 2 = true; ship 0 2 = NONE; length 2 = 0; length 5 = 0");
        run(0, "crash 2 = true; elect 0 = 3; ship 0 2 = NONE; crash 0 = true; recover 2 = true; tick 41 = 41; elect 2 = 0; "
            + "elect 2 = 5");

        says("or the first does not lead");
        run(0, "ship 0 1 = NONE; elect 0 = 3; ship 1 0 = NONE; ship 1 2 = NONE; ship 2 1 = NONE; ship 0 1 = 1; ship 1 0 = NONE");
        run(0, "elect 0 = 3; tick 50 = 50; ship 0 1 = 1; known 0 = 1; leader 0 = NONE");
        run(0, "crash 2 = true; elect 0 = 3; recover 2 = true; 2 x elect 2; crash 2 = true; ship 0 2 = NONE; ship 0 1 = 1; "
            + "recover 2 = true; ship 0 2 = STALE; ship 0 2 = NONE");
    }

    private static void beginAndRead() {
        says("begin: NONE when there are 16");
        run(0, "14 x begin; begin = 14; begin = 15; begin = NONE; abort 15 = true; commit 0 = 3; begin = NONE; state 15 = 4; "
            + "state 16 = NONE");

        says("the last version of the ready node (0 when there is none)");
        run(0, LEADERS + "begin = 0; read 0 0 = 0; write 0 0 7 = true; commit 0 = 2; begin = 1; write 1 0 8 = true; "
            + "ship 0 1 = 2; commit 1 = 2; begin = 2; read 2 0 = WAIT; ship 0 1 = 3; read 2 0 = 8; read 2 1 = 0");

        says("the key is read then");
        run(0, LEADERS + "begin = 0; begin = 1; write 1 0 1 = true; write 1 1 1 = true; commit 1 = 2; state 0 = 0; "
            + "read 0 0 = WAIT; ship 0 1 = 2; begin = 2; write 2 0 2 = true; read 0 1 = 1; commit 2 = 2; state 0 = 0");

        says("read: NONE when there is no such transaction or key; OVER");
        run(0, LEADERS + "read 0 0 = NONE; begin = 0; read 0 8 = NONE; read 0 -1 = NONE; read 1 0 = NONE; abort 0 = true; "
            + "read 0 8 = NONE; read 0 0 = OVER; read 0 7 = OVER; begin = 1; commit 1 = 3; read 1 -1 = NONE; read 1 0 = OVER; "
            + "begin = 2; write 2 0 5 = true; commit 2 = 2; read 2 0 = OVER; begin = 3; write 3 1 5 = true; write 3 5 5 = true; "
            + "commit 3 = 1; read 3 1 = OVER; state 3 = 1");

        says("then, when it writes the key itself, the answer is that value, and nothing else happens");
        run(0, "begin = 0; read 0 0 = DOWN; write 0 0 0 = true; read 0 0 = 0; write 0 0 999 = true; read 0 0 = 999; "
            + "read 0 1 = DOWN");
        run(0, LEADERS + "begin = 0; begin = 1; write 0 0 1 = true; read 0 0 = 1; write 1 0 2 = true; commit 1 = 2; state 0 = 0");
        run(0, LEADERS + "begin = 0; begin = 1; read 0 1 = 0; write 0 0 5 = true; elect 0 = 6; ship 0 1 = 2; read 0 0 = 5; "
            + "state 0 = 0; write 1 0 6 = true; commit 1 = 2; read 0 0 = 5; state 0 = 0; read 0 1 = OVER");

        says("DOWN; OVER, and it is aborted, when it read in that group before and does not hold it any more");
        run(0, LEADERS + "begin = 0; read 0 0 = 0; elect 0 = 6; read 0 1 = DOWN; state 0 = 0; read 0 4 = 0; ship 0 1 = 2; "
            + "read 0 5 = 0; state 0 = 0; read 0 1 = OVER; state 0 = 4");
        run(0, LEADERS + "begin = 0; read 0 0 = 0; tick 40 = 40; read 0 0 = DOWN; state 0 = 0");

        says("WAIT, when the log holds the key for a transaction that writes it");
        run(0, LEADERS + "begin = 0; begin = 1; write 0 0 7 = true; read 0 1 = 0; commit 0 = 2; read 1 0 = WAIT; read 1 1 = 0; "
            + "ship 0 1 = 2; read 1 0 = 7");
        run(0, LEADERS + "begin = 0; begin = 1; read 0 0 = 0; elect 0 = 6; ship 0 1 = 2; write 1 1 5 = true; commit 1 = 2; "
            + "read 0 1 = OVER; state 0 = 4");
    }

    private static void writeAndAbort() {
        says("write: False when there is no such transaction or key, it is not active, or value is not 0 .. 999");
        run(0, LEADERS + "write 0 0 1 = false; begin = 0; write 0 7 0 = true; write 0 7 999 = true; write 0 7 1000 = false; "
            + "write 0 7 -1 = false; write 0 8 1 = false; write 0 -1 1 = false; write 1 0 1 = false; write -1 0 1 = false; "
            + "read 0 7 = 999; commit 0 = 2; write 0 7 1 = false; begin = 1; abort 1 = true; write 1 0 1 = false; begin = 2; "
            + "commit 2 = 3; write 2 0 1 = false; ship 3 4 = 2; begin = 3; read 3 7 = 999");
        run(0, PREPARED + "write 0 0 9 = false; write 0 1 9 = false; step 0 = 2; write 0 0 9 = false; ship 0 1 = 3; begin = 1; "
            + "read 1 0 = 7; read 1 1 = 0");

        says("abort: False when there is no such transaction or it is not active");
        run(0, "abort 0 = false; begin = 0; abort 1 = false; abort -1 = false; abort 16 = false; abort 0 = true; state 0 = 4; "
            + "abort 0 = false; begin = 1; commit 1 = 3; abort 1 = false; state 1 = 3");
        run(0, PREPARED + "abort 0 = false; state 0 = 1; step 0 = 2; abort 0 = false; state 0 = 2");
    }

    private static void commitTests() {
        says("commit: NONE when there is no such transaction; OVER");
        run(0, "commit 0 = NONE; begin = 0; commit 1 = NONE; commit -1 = NONE; commit 0 = 3; commit 0 = OVER; begin = 1; "
            + "abort 1 = true; commit 1 = OVER; begin = 2; write 2 0 1 = true; abort 2 = true; commit 2 = OVER; state 2 = 4");
        run(0, PREPARED + "commit 0 = OVER; state 0 = 1; step 0 = 2; commit 0 = OVER; state 0 = 2");

        says("DOWN, when one has no ready node");
        run(0, "elect 0 = 3; ship 0 1 = 1; begin = 0; write 0 0 1 = true; write 0 4 1 = true; commit 0 = DOWN; state 0 = 0; "
            + "length 0 = 1; elect 3 = 3; commit 0 = DOWN; ship 3 4 = 1; commit 0 = 1");
        run(0, "elect 3 = 3; ship 3 4 = 1; begin = 0; write 0 0 1 = true; write 0 4 1 = true; commit 0 = DOWN; begin = 1; "
            + "write 1 4 1 = true; commit 1 = 2");
        run(0, LEADERS + "begin = 0; read 0 0 = 0; tick 40 = 40; commit 0 = DOWN; state 0 = 0");

        says("each test for both before the next one: DOWN .. 4, and it is aborted, when it read in one and does not hold it");
        run(0, LEADERS + "begin = 0; read 0 0 = 0; write 0 4 1 = true; elect 0 = 6; ship 0 1 = 2; crash 3 = true; "
            + "commit 0 = DOWN; state 0 = 0");
        run(0, LEADERS + "begin = 0; read 0 4 = 0; write 0 0 1 = true; elect 3 = 6; ship 3 4 = 2; crash 0 = true; "
            + "commit 0 = DOWN; state 0 = 0");
        run(0, LEADERS + "begin = 0; read 0 0 = 0; elect 0 = 6; ship 0 1 = 2; commit 0 = 4; state 0 = 4");
        run(0, LEADERS + "begin = 0; read 0 0 = 0; read 0 4 = 0; write 0 0 1 = true; elect 3 = 6; ship 3 4 = 2; commit 0 = 4; "
            + "state 0 = 4; length 0 = 1; length 3 = 2");
        run(0, LEADERS + "begin = 0; read 0 4 = 0; write 0 0 1 = true; elect 0 = 6; ship 0 1 = 2; commit 0 = 1");

        says("When it writes nothing (or has no groups), it is committed");
        run(0, "begin = 0; commit 0 = 3; state 0 = 3; stamp 0 = 0");
        run(0, LEADERS + "begin = 0; read 0 0 = 0; read 0 4 = 0; commit 0 = 3; length 0 = 1; length 3 = 1; stamp 0 = 0");
        run(0, LEADERS + "begin = 0; begin = 1; read 0 0 = 0; read 1 0 = 0; commit 1 = 3; state 0 = 0; commit 0 = 3");
        run(0, LEADERS + "59 x tick 1, beat 0, beat 3; begin = 0; read 0 0 = 0; read 0 4 = 0; commit 0 = 3");
        run(0, LEADERS + "39 x beat 0; begin = 0; read 0 0 = 0; commit 0 = 3");
        run(0, LEADERS + "begin = 0; write 0 0 0 = true; commit 0 = 2; length 0 = 2");
    }

    private static void commitRefused() {
        says("FULL, when that holds at a ready node of its groups");
        String full0 = LEADERS + "59 x tick 1, beat 0; beat 3 = 59; ";
        String full3 = LEADERS + "59 x tick 1, beat 3; beat 0 = 59; ";
        run(0, full0 + "begin = 0; write 0 0 1 = true; commit 0 = FULL; state 0 = 0; write 0 4 1 = true; commit 0 = FULL; "
            + "length 3 = 2; begin = 1; write 1 4 1 = true; commit 1 = 2");
        run(0, full3 + "begin = 0; write 0 0 1 = true; read 0 4 = 0; commit 0 = FULL; length 0 = 2; begin = 1; "
            + "write 1 0 1 = true; commit 1 = 2; state 0 = 0");

        says("then LATE likewise");
        run(0, full0 + "39 x beat 3; begin = 0; write 0 4 1 = true; commit 0 = LATE; write 0 0 1 = true; commit 0 = FULL; "
            + "length 3 = 41");
        run(0, full3 + "39 x beat 0; begin = 0; write 0 0 1 = true; commit 0 = LATE; write 0 4 1 = true; commit 0 = FULL; "
            + "length 0 = 41");
        run(0, LEADERS + "39 x beat 3; begin = 0; read 0 4 = 0; write 0 0 1 = true; commit 0 = LATE; length 0 = 1; state 0 = 0");
        run(0, LEADERS + "39 x beat 0; begin = 0; read 0 0 = 0; write 0 4 1 = true; commit 0 = LATE; length 3 = 1; state 0 = 0");

        says("Refusals of a call are tested in the order in which they stand there");
        run(0, LEADERS + "begin = 0; read 0 1 = 0; write 0 0 1 = true; elect 0 = 6; ship 0 1 = 2; 58 x tick 1, beat 0; "
            + "length 0 = 60; commit 0 = 4");
        run(0, LEADERS + "begin = 0; read 0 0 = 0; begin = 1; write 1 0 1 = true; commit 1 = WAIT; 59 x tick 1, beat 0; "
            + "commit 1 = FULL");
        run(0, LEADERS + "begin = 0; read 0 0 = 0; begin = 1; write 1 0 1 = true; commit 1 = WAIT; 39 x beat 0; "
            + "commit 1 = LATE");
        run(0, LEADERS + "begin = 0; write 0 0 1 = true; 59 x tick 1, beat 0; tick 40 = 99; commit 0 = DOWN");
    }

    private static void commitWaits() {
        says("WAIT, when a key that it writes is held by the log for another transaction");
        run(0, LEADERS + "3 x begin; write 0 0 1 = true; write 1 0 2 = true; write 1 1 2 = true; write 2 1 3 = true; "
            + "commit 0 = 2; commit 1 = WAIT; state 1 = 0; commit 2 = 2; ship 0 1 = 2; commit 1 = WAIT; ship 0 1 = 3; "
            + "commit 1 = 2");
        run(0, LEADERS + "begin = 0; begin = 1; read 1 0 = 0; read 1 1 = 0; write 1 2 1 = true; commit 1 = 2; "
            + "write 0 0 5 = true; commit 0 = WAIT; begin = 2; read 2 0 = 0; write 2 3 1 = true; commit 2 = 2; ship 0 1 = 2; "
            + "commit 0 = WAIT; ship 0 1 = 3; commit 0 = 2");
        run(0, LEADERS + "begin = 0; write 0 0 1 = true; write 0 4 2 = true; commit 0 = 1; ship 3 4 = 2; crash 0 = true; "
            + "tick 41 = 41; beat 3 = 41; elect 1 = 4; ship 1 2 = 1; ship 1 2 = 2; step 0 = 4; begin = 1; write 1 4 5 = true; "
            + "commit 1 = WAIT; step 0 = 4; commit 1 = WAIT; 2 x ship 3 4; commit 1 = 2");

        says("or was read, and is held, by an older active one");
        run(0, LEADERS + "begin = 0; begin = 1; read 0 0 = 0; write 1 0 1 = true; commit 1 = WAIT; commit 0 = 3; commit 1 = 2");
        run(0, LEADERS + "begin = 0; begin = 1; read 0 4 = 0; write 1 4 1 = true; commit 1 = WAIT; abort 0 = true; "
            + "commit 1 = 2");
        run(0, LEADERS + "begin = 0; begin = 1; read 0 0 = 0; elect 0 = 6; ship 0 1 = 2; write 1 0 1 = true; commit 1 = 2; "
            + "state 0 = 0");
        run(0, LEADERS + "begin = 0; begin = 1; read 0 0 = 0; read 0 4 = 0; elect 0 = 6; ship 0 1 = 2; write 1 0 1 = true; "
            + "commit 1 = 2; begin = 2; write 2 4 1 = true; commit 2 = WAIT");
        run(0, LEADERS + "begin = 0; begin = 1; write 0 0 1 = true; read 0 0 = 1; write 1 0 2 = true; commit 1 = 2");
        run(0, LEADERS + "begin = 0; read 0 0 = 0; write 0 0 1 = true; commit 0 = 2");
    }

    private static void commitWrites() {
        says("Otherwise all other active transactions that read a key that it writes, and hold it, are aborted");
        run(0, LEADERS + "6 x begin; read 1 0 = 0; read 2 1 = 0; write 3 0 1 = true; read 4 0 = 0; read 4 5 = 0; "
            + "write 0 0 9 = true; commit 0 = 2; state 1 = 4; state 2 = 0; state 3 = 0; state 4 = 4; state 5 = 0; state 0 = 2");
        run(0, LEADERS + "begin = 0; begin = 1; begin = 2; read 1 0 = 0; read 2 4 = 0; elect 0 = 6; ship 0 1 = 2; "
            + "write 0 0 9 = true; write 0 4 9 = true; commit 0 = 1; state 1 = 0; state 2 = 4; read 1 1 = OVER; state 1 = 4");
        run(0, LEADERS + "begin = 0; begin = 1; begin = 2; read 0 0 = 0; read 2 1 = 0; write 1 0 1 = true; write 1 1 1 = true; "
            + "commit 1 = WAIT; state 2 = 0");
        run(0, LEADERS + "begin = 0; begin = 1; read 1 0 = 0; commit 1 = 3; write 0 0 9 = true; commit 0 = 2; state 1 = 3");

        says("with one group the ready node writes COMMIT, and it is committing; with two each one writes PREPARE");
        run(0, LEADERS + "begin = 0; write 0 3 1 = true; commit 0 = 2; state 0 = 2; length 0 = 2; length 1 = 1; length 3 = 1");
        run(0, LEADERS + "begin = 0; write 0 4 1 = true; commit 0 = 2; state 0 = 2; length 3 = 2; length 0 = 1");
        run(0, LEADERS + "begin = 0; write 0 3 1 = true; write 0 4 1 = true; commit 0 = 1; state 0 = 1; length 0 = 2; length 3 = 2");
    }

    private static void stepPreparing() {
        says("step: NONE when there is no such transaction. ACTIVE: nothing");
        run(0, LEADERS + "step 0 = NONE; begin = 0; step 1 = NONE; step -1 = NONE; step 16 = NONE; write 0 0 1 = true; step 0 = 0; "
            + "state 0 = 0; length 0 = 1");

        says("PREPARING: DOWN, when a group has no ready node");
        run(0, PREPARED + "crash 3 = true; step 0 = DOWN; state 0 = 1; length 0 = 2");
        run(0, PREPARED + "crash 0 = true; step 0 = DOWN; state 0 = 1");
        run(0, PREPARED + "tick 39 = 39; step 0 = 2");
        run(0, PREPARED + "tick 40 = 40; step 0 = DOWN; beat 0 = 40; step 0 = DOWN; beat 3 = 40; step 0 = 2");
        String lost = LEADERS + "begin = 0; write 0 0 1 = true; write 0 4 2 = true; commit 0 = 1; ";
        run(0, lost + "crash 0 = true; tick 41 = 41; elect 1 = 4; ship 1 2 = 1; ship 1 2 = 2; leader 0 = 1; step 0 = DOWN; "
            + "state 0 = 1; beat 3 = 41; step 0 = 4");

        says("when the log of one of the two ready nodes has no PREPARE of it, it is aborted");
        run(0, lost + "ship 3 4 = 2; crash 0 = true; tick 41 = 41; beat 3 = 41; elect 1 = 4; ship 1 2 = 1; ship 1 2 = 2; "
            + "step 0 = 4; state 0 = 4; length 1 = 2; length 3 = 3");
        run(0, lost + "crash 3 = true; tick 41 = 41; beat 0 = 41; elect 4 = 4; ship 4 5 = 1; ship 4 5 = 2; step 0 = 4; "
            + "state 0 = 4; length 4 = 2; length 0 = 3");

        says("when one of both is not known there, nothing");
        run(0, lost + "step 0 = 1; ship 0 1 = 2; step 0 = 1; length 0 = 2; ship 3 4 = 2; step 0 = 2; length 0 = 3; length 3 = 2");
        run(0, lost + "ship 3 4 = 2; step 0 = 1; length 0 = 2; ship 0 1 = 2; step 0 = 2");
        run(0, lost + "58 x tick 1, beat 0, beat 3; length 0 = 60; step 0 = 1; state 0 = 1");

        says("otherwise FULL, LATE, or the ready node of group 0 writes COMMIT, and it is committing");
        run(0, PREPARED + "58 x tick 1, beat 0, beat 3; step 0 = FULL; state 0 = 1; step 0 = FULL");
        run(0, PREPARED + "38 x beat 0; step 0 = LATE; state 0 = 1; tick 1 = 1; step 0 = LATE; beat 0 = 40; step 0 = LATE; "
            + "tick 2 = 3; beat 0 = 41; step 0 = 2");
        run(0, PREPARED + "58 x tick 1, beat 3, beat 0; tick 1 = 59; beat 3 = FULL; step 0 = FULL");
        run(0, PREPARED + "38 x beat 3; length 3 = 40; step 0 = 2; length 0 = 3; length 3 = 40");
    }

    private static void stepCommitting() {
        String one = LEADERS + "begin = 0; write 0 4 7 = true; commit 0 = 2; ";
        says("COMMITTING, at the ready node of its one group, or of group 0 (DOWN without one)");
        run(0, one + "ship 3 4 = 2; crash 0 = true; tick 2 = 2; step 0 = 3; stamp 0 = 1");
        run(0, one + "ship 3 4 = 2; tick 40 = 40; step 0 = DOWN; state 0 = 2; beat 0 = 40; step 0 = DOWN; beat 3 = 40; step 0 = 3");
        run(0, COMMITTING + "crash 3 = true; tick 3 = 3; step 0 = 3; stamp 0 = 2");
        run(0, COMMITTING + "crash 0 = true; tick 3 = 3; step 0 = DOWN; state 0 = 2");

        says("when its log has no COMMIT of it, it is aborted with one group, and preparing again with two");
        run(0, one + "crash 3 = true; tick 41 = 41; elect 4 = 4; ship 4 5 = 1; ship 4 5 = 2; step 0 = 4; state 0 = 4; stamp 0 = 0");
        run(0, PREPARED + "step 0 = 2; crash 0 = true; tick 41 = 41; elect 1 = 4; 3 x ship 1 2; leader 0 = 1; step 0 = 1; "
            + "state 0 = 1; beat 3 = 41; step 0 = 2; length 1 = 4; ship 1 2 = 4; tick 2 = 43; step 0 = 3; stamp 0 = 42");
        run(0, PREPARED + "step 0 = 2; crash 0 = true; tick 41 = 41; elect 1 = 4; 2 x ship 1 2; step 0 = DOWN; state 0 = 2");

        says("when that is not known there, or its stamp is not below the node's earliest, nothing");
        run(0, one + "tick 9 = 9; step 0 = 2; state 0 = 2; ship 3 4 = 2; step 0 = 3");
        run(0, one + "ship 3 4 = 2; step 0 = 2; tick 1 = 1; step 0 = 2; tick 1 = 2; step 0 = 3; stamp 0 = 1");
        for (int eps = 0; eps <= 10; eps++) {
            int last = 2 * eps + 1;
            run(eps, one + "ship 3 4 = 2; tick " + last + " = " + last + "; beat 3; step 0 = 2; stamp 0 = 0; tick 1 = "
                + (last + 1) + "; step 0 = 3; stamp 0 = " + (eps + 1));
        }
        run(5, one + "ship 3 4 = 2; skew 3 -5 = true; tick 16 = 16; step 0 = 2; tick 1 = 17; step 0 = 3; stamp 0 = 6");
        run(5, one + "ship 3 4 = 2; skew 3 5 = true; tick 6 = 6; step 0 = 2; tick 1 = 7; step 0 = 3; stamp 0 = 6");

        says("otherwise it is committed, with that stamp");
        run(0, COMMITTING + "tick 2 = 2; step 0 = 2; stamp 0 = 0; tick 1 = 3; step 0 = 3; state 0 = 3; stamp 0 = 2");
    }

    private static void stepEnded() {
        says("COMMITTED or ABORTED: in each group .. whose ready node's log has a PREPARE of it and no COMMIT or OUTCOME of it");
        run(0, COMMITTING + "tick 3 = 3; step 0 = 3; length 3 = 2; step 0 = 3; length 0 = 3; length 3 = 3; step 0 = 3; "
            + "length 0 = 3; length 3 = 3");
        run(0, LEADERS + "begin = 0; write 0 0 1 = true; write 0 4 2 = true; commit 0 = 1; crash 3 = true; tick 41 = 41; "
            + "beat 0 = 41; elect 4 = 4; ship 4 5 = 1; ship 4 5 = 2; step 0 = 4; step 0 = 4; length 0 = 4; length 4 = 2; "
            + "step 0 = 4; length 0 = 4; 3 x ship 0 1; safe 0 = 42; begin = 1; read 1 0 = 0");
        run(0, LEADERS + "begin = 0; write 0 0 1 = true; commit 0 = 2; ship 0 1 = 2; tick 2 = 2; step 0 = 3; step 0 = 3; "
            + "length 0 = 2; begin = 1; abort 1 = true; step 1 = 4; begin = 2; commit 2 = 3; step 2 = 3; length 0 = 2; length 3 = 1");
        run(0, COMMITTING + "tick 3 = 3; step 0 = 3; crash 3 = true; step 0 = 3; length 3 = 2; tick 38 = 41; elect 4 = 4; "
            + "3 x ship 4 5; leader 1 = 4; step 0 = 3; length 4 = 4; ship 4 5 = 4; begin = 1; read 1 4 = 8");
        run(0, COMMITTING + "tick 3 = 3; step 0 = 3; step 0 = 3; length 3 = 3; crash 3 = true; tick 41 = 44; elect 4 = 4; "
            + "3 x ship 4 5; leader 1 = 4; step 0 = 3; length 4 = 4; begin = 1; read 1 4 = WAIT; ship 4 5 = 4; read 1 4 = 8");

        says("that node writes OUTCOME, if that can be written");
        run(0, COMMITTING + "tick 3 = 3; step 0 = 3; 40 x beat 3; step 0 = 3; length 3 = 42; tick 2 = 5; beat 3 = 43; step 0 = 3; "
            + "length 3 = 44");
        run(0, COMMITTING + "58 x tick 1, beat 0, beat 3; step 0 = 3; step 0 = 3; state 0 = 3; length 3 = 60");
    }

    private static void answersOfTransactions() {
        says("The state of a transaction; NONE when there is no such one");
        run(0, PREPARED + "state 1 = NONE; state -1 = NONE; state 16 = NONE; state 0 = 1; step 0 = 2; state 0 = 2; ship 0 1 = 3; "
            + "tick 3 = 3; step 0 = 3; state 0 = 3; begin = 1; state 1 = 0; abort 1 = true; state 1 = 4");

        says("The stamp of a committed transaction that writes something; 0 for any other; NONE when there is no such transaction");
        run(0, PREPARED + "stamp 1 = NONE; stamp -1 = NONE; stamp 16 = NONE; stamp 0 = 0; step 0 = 2; stamp 0 = 0; ship 0 1 = 3; "
            + "stamp 0 = 0; tick 3 = 3; step 0 = 3; stamp 0 = 2; begin = 1; stamp 1 = 0; read 1 0 = 7; commit 1 = 3; stamp 1 = 0; "
            + "begin = 2; write 2 0 5 = true; abort 2 = true; stamp 2 = 0; begin = 3; commit 3 = 3; stamp 3 = 0");
        run(0, LEADERS + "begin = 0; write 0 4 0 = true; commit 0 = 2; ship 3 4 = 2; tick 2 = 2; step 0 = 3; stamp 0 = 1");
    }

    private static void snapshotTimes() {
        says("snapshot: NONE when there is no such node or key, the key is not of its group, it is down, or time is below 0");
        run(0, LEADERS + "snapshot 0 0 0 = 0; snapshot 6 0 0 = NONE; snapshot -1 0 0 = NONE; snapshot 0 8 0 = NONE; "
            + "snapshot 0 -1 0 = NONE; snapshot 0 3 0 = 0; snapshot 0 4 0 = NONE; snapshot 3 3 0 = NONE; snapshot 3 4 0 = 0; "
            + "snapshot 3 7 0 = 0; snapshot 0 0 -1 = NONE; snapshot 0 0 " + LEAST + " = NONE; crash 0 = true; "
            + "snapshot 0 0 0 = NONE; snapshot 0 0 9 = NONE; recover 0 = true; snapshot 0 0 0 = 0");
        run(0, "snapshot 0 4 0 = NONE; snapshot 0 0 -1 = NONE; crash 1 = true; snapshot 1 0 0 = NONE; snapshot 2 0 0 = WAIT");

        says("WAIT, when time is above the node's SAFE or that is NONE");
        run(0, LEADERS + "snapshot 0 0 0 = 0; snapshot 0 0 1 = WAIT; snapshot 0 0 " + MOST + " = WAIT; snapshot 2 0 0 = WAIT; "
            + "snapshot 1 0 0 = 0; snapshot 1 0 1 = WAIT; beat 0 = 1; snapshot 0 0 1 = WAIT; ship 0 1 = 2; snapshot 0 0 1 = 0");
        run(0, PREPARED + "beat 0 = 2; ship 0 1 = 3; safe 0 = 0; snapshot 0 0 0 = 0; snapshot 0 0 1 = WAIT; snapshot 0 3 1 = WAIT");
        run(0, "elect 0 = 3; snapshot 0 0 0 = WAIT");
    }

    private static void snapshotVersions() {
        String three = "elect 3 = 3; ship 3 4 = 1; 5 x begin; write 0 7 10 = true; write 1 7 11 = true; write 2 7 12 = true; "
            + "write 3 7 13 = true; write 4 7 14 = true; commit 0 = 2; ship 3 4 = 2; tick 5 = 5; commit 1 = 2; ship 3 4 = 3; "
            + "tick 5 = 10; commit 2 = 2; ship 3 4 = 4; ";
        says("that of its last version whose stamp is not above it (0 when there is none)");
        run(0, three + "snapshot 3 7 0 = 0; snapshot 3 7 1 = 10; snapshot 3 7 4 = 10; snapshot 3 7 5 = 11; snapshot 3 7 9 = 11; "
            + "snapshot 3 7 10 = 12; snapshot 3 7 11 = WAIT; snapshot 3 6 10 = 0");

        says("GONE, when the node has more than three versions of the key, and the time is below the stamp of the last but two");
        run(0, three + "tick 5 = 15; commit 3 = 2; snapshot 3 7 0 = 0; snapshot 3 7 1 = 10; ship 3 4 = 5; snapshot 3 7 0 = GONE; "
            + "snapshot 3 7 1 = GONE; snapshot 3 7 4 = GONE; snapshot 3 7 5 = 11; snapshot 3 7 9 = 11; snapshot 3 7 10 = 12; "
            + "snapshot 3 7 14 = 12; snapshot 3 7 15 = 13; snapshot 4 7 4 = GONE; snapshot 3 6 0 = 0; commit 4 = 2; "
            + "ship 3 4 = 6; snapshot 3 7 9 = GONE; snapshot 3 7 10 = 12; snapshot 3 7 16 = 14");
        run(0, three + "tick 5 = 15; commit 3 = 2; 4 x ship 3 5; snapshot 5 7 1 = 10; ship 3 5 = 5; snapshot 5 7 1 = GONE; "
            + "snapshot 4 7 1 = 10");
        String outcomes = COMMITTING + "tick 3 = 3; step 0 = 3; step 0 = 3; ship 3 4 = 3; 3 x begin; write 1 4 1 = true; "
            + "write 2 4 2 = true; write 3 4 3 = true; commit 1 = 2; ship 3 4 = 4; commit 2 = 2; ship 3 4 = 5; ";
        run(0, outcomes + "safe 3 = 5; snapshot 3 4 0 = 0; snapshot 3 4 2 = 8; snapshot 3 4 3 = 8; snapshot 3 4 4 = 1; "
            + "commit 3 = 2; ship 3 4 = 6; snapshot 3 4 2 = GONE; snapshot 3 4 3 = GONE; snapshot 3 4 4 = 1; snapshot 3 4 6 = 3");
        run(0, COMMITTING + "tick 3 = 3; step 0 = 3; 3 x begin; write 1 0 1 = true; write 2 0 2 = true; write 3 0 3 = true; "
            + "commit 1 = 2; ship 0 1 = 4; commit 2 = 2; ship 0 1 = 5; snapshot 0 0 0 = 0; snapshot 0 0 2 = 7; commit 3 = 2; "
            + "ship 0 1 = 6; snapshot 0 0 2 = GONE; snapshot 0 0 3 = 1");

        says("WAIT, when time is above the node's SAFE .. GONE, when the node has more than three versions");
        run(0, PREPARED + "4 x begin; write 1 1 1 = true; write 2 1 2 = true; write 3 1 3 = true; write 4 1 4 = true; "
            + "commit 1 = 2; ship 0 1 = 3; commit 2 = 2; ship 0 1 = 4; commit 3 = 2; ship 0 1 = 5; commit 4 = 2; ship 0 1 = 6; "
            + "safe 0 = 0; snapshot 0 1 0 = GONE; snapshot 0 1 1 = WAIT; snapshot 0 1 2 = WAIT; snapshot 0 1 3 = WAIT; "
            + "snapshot 0 0 0 = 0; step 0 = 2; ship 0 1 = 7; snapshot 0 1 2 = GONE; snapshot 0 1 3 = 2; snapshot 0 1 5 = 4; "
            + "snapshot 0 1 -1 = NONE");
    }

    private static void answersOfNodes() {
        says("SAFE of a node; NONE when there is no such node");
        run(0, LEADERS + "safe 0 = 0; safe 5 = NONE; safe 6 = NONE; safe -1 = NONE; crash 0 = true; safe 0 = 0");

        says("How many entries a node's log has; NONE when there is no such node");
        run(0, LEADERS + "length 0 = 1; length 2 = 0; length 5 = 0; length 6 = NONE; length -1 = NONE; crash 0 = true; length 0 = 1");

        says("How many entries a node has as known; NONE when there is no such node");
        run(0, LEADERS + "beat 0 = 1; known 0 = 1; known 2 = 0; known 5 = 0; known 6 = NONE; known -1 = NONE; crash 0 = true; "
            + "known 0 = 1");

        says("The ready node of a group; NONE when there is none or no such group");
        run(0, LEADERS + "leader 0 = 0; leader 1 = 3; leader 2 = NONE; leader -1 = NONE; leader " + LEAST + " = NONE; leader " + MOST
            + " = NONE; crash 0 = true; leader 0 = NONE; leader 1 = 3; tick 40 = 40; leader 1 = NONE");
    }

    private static void says(String words) {
        sentence = words;
    }

    private static void run(int eps, String script) {
        Script.run(sentence, eps, script);
    }

    private static String with(String mark, int number, String script) {
        return script.replace(mark, Integer.toString(number));
    }
}
