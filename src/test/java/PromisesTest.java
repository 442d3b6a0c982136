/** Each promise of the document with short runs on new objects; Script says how a run is told. */
public final class PromisesTest {
    private static final String LEADERS = Script.LEADERS;

    public static void main(String[] args) {
        constantsAndNewObject();
        clocks();
        crashes();
        elections();
        promisesOfNodes();
        logsBehind();
        beats();
        ships();
        begins();
        reads();
        writes();
        commitsRefused();
        commitsAndLocks();
        aborts();
        stepsOfOneGroup();
        stepsOfTwoGroups();
        stepsThatLoseEntries();
        outcomes();
        statesAndStamps();
        snapshots();
        safeTimes();
        lengthsKnownAndLeaders();
        Script.end();
    }

    private static void constantsAndNewObject() {
        same("NONE", StampedStore.NONE, -1);
        same("OVER", StampedStore.OVER, -2);
        same("DOWN", StampedStore.DOWN, -3);
        same("WAIT", StampedStore.WAIT, -4);
        same("STALE", StampedStore.STALE, -5);
        same("FULL", StampedStore.FULL, -6);
        same("LATE", StampedStore.LATE, -7);
        same("GONE", StampedStore.GONE, -8);
        for (int eps = 0; eps <= 10; eps++) {
            run("1: eps is taken", eps, "skew 0 " + eps + " = true; skew 0 " + (eps + 1) + " = false; skew 0 "
                + -eps + " = true; skew 0 " + (-eps - 1) + " = false");
        }
        for (int eps : new int[] {-1, 11, 1000, Integer.MIN_VALUE, Integer.MAX_VALUE}) {
            run("1: a wrong eps is 5", eps, "skew 0 5 = true; skew 0 6 = false; skew 0 -5 = true; skew 0 -6 = false");
        }
        for (int node = 0; node < 6; node++) {
            run("1: nodes are up with empty logs", 5, "recover # = false; length # = 0; known # = 0; safe # = NONE; "
                .replace("#", "" + node) + "beat # = NONE; crash # = true".replace("#", "" + node));
        }
        run("1: no leaders, no transactions", 5, "leader 0 = NONE; leader 1 = NONE; state 0 = NONE; begin = 0");
    }

    private static void clocks() {
        run("2: the time grows", 5, "tick 1 = 1; tick 50 = 51; tick 7 = 58");
        run("2: wrong ticks change nothing", 5, "tick 3 = 3; tick 0 = NONE; tick -1 = NONE; tick 51 = NONE; "
            + "tick -2147483648 = NONE; tick 2147483647 = NONE; tick 1 = 4");
        run("3: the skew counts in a reading", 3, "skew 0 3 = true; elect 0 = 3; ship 0 1 = 1; safe 0 = 6");
        run("3: also below 0", 3, "skew 0 -3 = true; elect 0 = 3; ship 0 1 = 1; safe 0 = 0");
        run("3: the last skew counts", 3, "skew 0 3 = true; skew 0 1 = true; elect 0 = 3; ship 0 1 = 1; safe 0 = 4");
        run("3: a node that is down has a skew", 3, "crash 0 = true; skew 0 2 = true; recover 0 = true; "
            + "elect 0 = 3; ship 0 1 = 1; safe 0 = 5");
        run("3: refusals change nothing", 3, "skew 0 2 = true; skew 0 4 = false; skew 0 -4 = false; skew -1 0 = false; "
            + "skew 6 0 = false; elect 0 = 3; ship 0 1 = 1; safe 0 = 5");
        run("3: eps 0 leaves only 0", 0, "skew 5 0 = true; skew 5 1 = false; skew 5 -1 = false");
    }

    private static void crashes() {
        run("4: a node that crashes leads no more", 5, "elect 0 = 3; ship 0 1 = 1; leader 0 = 0; crash 0 = true; "
            + "leader 0 = NONE; recover 0 = true; leader 0 = NONE; beat 0 = NONE; ship 0 1 = NONE");
        run("4: its log and what it knows survive", 5, "elect 0 = 3; ship 0 1 = 1; beat 0 = 6; crash 0 = true; "
            + "length 0 = 2; known 0 = 1; safe 0 = 5; recover 0 = true; length 0 = 2; known 0 = 1; safe 0 = 5");
        run("4: its epoch survives", 5, "elect 0 = 3; crash 0 = true; recover 0 = true; elect 0 = 6");
        run("4: its promise survives", 5, "elect 0 = 3; crash 1 = true; recover 1 = true; elect 1 = 0; crash 0 = true; "
            + "tick 50 = 50; elect 1 = 0; tick 1 = 51; elect 1 = 4");
        run("4: its skew survives", 5, "skew 0 5 = true; crash 0 = true; recover 0 = true; elect 0 = 3; ship 0 1 = 1; "
            + "safe 0 = 10");
        run("4: refusals", 5, "crash 3 = true; crash 3 = false; crash -1 = false; crash 6 = false");
        run("5: a node is up again", 5, "recover 0 = false; crash 0 = true; elect 0 = NONE; recover 0 = true; "
            + "elect 0 = 3; recover 0 = false; recover -1 = false; recover 6 = false");
    }

    private static void elections() {
        run("6: the epochs of nodes", 5, "elect 0 = 3; elect 0 = 6; elect 0 = 9; length 0 = 3");
        run("6: the epochs of nodes", 5, "elect 1 = 1; elect 1 = 4; elect 5 = 2; elect 5 = 5; length 5 = 2");
        run("6: the epochs of nodes", 5, "elect 2 = 2; elect 3 = 3; length 2 = 1; length 0 = 0; length 3 = 1");
        run("6: the epochs of nodes", 5, "elect 4 = 1; elect 4 = 4; elect 4 = 7");
        run("6: refusals", 5, "elect -1 = NONE; elect 6 = NONE; crash 4 = true; elect 4 = NONE");
        run("6: two of three are enough", 5, "crash 2 = true; elect 0 = 3; beat 0 = 6");
        run("6: one is not, but keeps the epoch", 5, "crash 1 = true; crash 2 = true; elect 0 = 0; length 0 = 0; "
            + "beat 0 = NONE; recover 1 = true; elect 0 = 6");
        run("6: groups are apart", 5, "crash 3 = true; crash 4 = true; elect 5 = 0; elect 0 = 3; elect 5 = 0");
        run("6: who asks in vain leads no more", 5, "elect 0 = 3; ship 0 1 = 1; crash 1 = true; crash 2 = true; "
            + "elect 0 = 0; leader 0 = NONE; beat 0 = NONE; recover 1 = true; ship 0 1 = NONE");
        run("6: the lease ends LEASE after the earliest", 5, "elect 0 = 3; ship 0 1 = 1; tick 29 = 29; leader 0 = 0; "
            + "tick 1 = 30; leader 0 = NONE");
        run("6: by the skew too", 5, "skew 0 -5 = true; elect 0 = 3; ship 0 1 = 1; tick 29 = 29; leader 0 = 0; "
            + "tick 1 = 30; leader 0 = NONE; skew 0 -5 = true");
        run("6: a new lease may end before the old one", 5, "skew 0 5 = true; elect 0 = 3; skew 0 -5 = true; "
            + "elect 0 = 6; ship 0 1 = 1; ship 0 1 = 2; tick 29 = 29; leader 0 = 0; tick 1 = 30; leader 0 = NONE");
        run("6: a BEAT that would be LATE is not written", 10, "elect 0 = 3; 18 x beat 0; beat 0 = 29; length 0 = 20; "
            + "beat 0 = LATE; elect 0 = 6; length 0 = 20; beat 0 = LATE; tick 1 = 1; beat 0 = 30; length 0 = 21");
        run("6: a BEAT is not written in a full log", 0, "elect 0 = 3; 59 x tick 1, beat 0; length 0 = 60; elect 0 = 6; "
            + "length 0 = 60; beat 0 = FULL");
        run("6: a node that leads and grants leads no more", 0, "elect 0 = 3; ship 0 1 = 1; tick 41 = 41; elect 1 = 4; "
            + "beat 0 = NONE; ship 1 0 = 2; ship 0 1 = NONE; leader 0 = 1");
    }

    private static void promisesOfNodes() {
        run("6: a promise binds until its time is past", 5, "elect 1 = 1; elect 2 = 0; tick 50 = 50; elect 2 = 0; "
            + "tick 1 = 51; elect 2 = 2");
        run("6: by the skew of who promised", 5, "elect 0 = 3; crash 0 = true; skew 1 5 = true; skew 2 5 = true; "
            + "tick 45 = 45; elect 1 = 0; tick 1 = 46; elect 1 = 4");
        run("6: counted from the latest of who promised", 5, "skew 1 5 = true; skew 2 5 = true; elect 0 = 3; crash 0 = true; "
            + "tick 50 = 50; elect 1 = 0; tick 1 = 51; elect 1 = 4");
        run("6: a promise does not get shorter", 5, "skew 1 5 = true; skew 2 5 = true; elect 0 = 3; skew 1 -5 = true; "
            + "skew 2 -5 = true; elect 0 = 6; crash 0 = true; skew 1 5 = true; skew 2 5 = true; tick 50 = 50; "
            + "elect 1 = 0; tick 1 = 51; elect 1 = 7");
        run("6: a promise is longer with a new grant", 0, "elect 0 = 3; tick 10 = 10; elect 0 = 6; crash 0 = true; "
            + "tick 40 = 50; elect 1 = 0; tick 1 = 51; elect 1 = 7");
        run("6: who promised to the asking node grants again", 0, "elect 2 = 2; tick 1 = 1; crash 0 = true; elect 2 = 5");
        run("6: grants without a leader remain", 0, "crash 0 = true; crash 1 = true; elect 2 = 0; recover 0 = true; "
            + "recover 1 = true; crash 1 = true; elect 0 = 0; tick 41 = 41; elect 0 = 6; ship 0 2 = 1");
        run("6: without its own grant a node does not lead", 5, "elect 0 = 3; ship 0 1 = 1; skew 0 5 = true; "
            + "skew 2 5 = true; skew 1 -5 = true; tick 46 = 46; elect 1 = 0; beat 0 = NONE; beat 1 = NONE; tick 10 = 56; "
            + "elect 1 = 0; elect 1 = 7");
        run("6: a node of the same or a greater epoch does not grant", 0, "crash 0 = true; crash 1 = true; elect 2 = 0; "
            + "elect 2 = 0; recover 1 = true; tick 41 = 41; elect 1 = 0; elect 1 = 0; elect 1 = 7");
    }

    private static void logsBehind() {
        run("6: an empty log is behind", 0, "elect 0 = 3; ship 0 1 = 1; crash 0 = true; tick 41 = 41; elect 2 = 0; "
            + "elect 1 = 0; elect 1 = 0; tick 41 = 82; elect 1 = 10");
        run("6: a shorter log of the same epoch is behind", 0, "elect 0 = 3; ship 0 1 = 1; ship 0 2 = 1; beat 0 = 1; "
            + "ship 0 1 = 2; crash 0 = true; tick 41 = 41; elect 2 = 0; tick 41 = 82; elect 1 = 0; elect 1 = 7");
        run("6: a longer log of a lesser epoch is behind", 0, "elect 0 = 3; beat 0 = 1; beat 0 = 2; crash 0 = true; "
            + "tick 41 = 41; elect 1 = 4; ship 1 2 = 1; recover 0 = true; tick 41 = 82; elect 0 = 0; length 0 = 3");
        run("6: a shorter log of a greater epoch is not", 0, "elect 0 = 3; beat 0 = 1; beat 0 = 2; crash 0 = true; "
            + "tick 41 = 41; elect 1 = 4; recover 0 = true; tick 41 = 82; crash 2 = true; elect 1 = 7; ship 1 0 = 1");
        run("6: a log as long is not", 0, "elect 0 = 3; ship 0 1 = 1; crash 2 = true; tick 41 = 41; elect 1 = 4");
    }

    private static void beats() {
        run("7: the stamps of BEATs", 5, "elect 0 = 3; beat 0 = 6; tick 10 = 10; beat 0 = 15; beat 0 = 16; length 0 = 4");
        run("7: the lease gets longer", 5, "elect 0 = 3; ship 0 1 = 1; tick 20 = 20; beat 0 = 25; tick 29 = 49; "
            + "leader 0 = 0; tick 1 = 50; leader 0 = NONE; beat 0 = 55; leader 0 = 0");
        run("7: the lease does not get shorter", 5, "skew 0 5 = true; elect 0 = 3; ship 0 1 = 1; skew 0 -5 = true; "
            + "beat 0 = 11; tick 39 = 39; leader 0 = 0; tick 1 = 40; leader 0 = NONE");
        run("7: one node is not enough for it", 5, "elect 0 = 3; ship 0 1 = 1; crash 1 = true; crash 2 = true; "
            + "tick 29 = 29; beat 0 = 34; leader 0 = 0; tick 1 = 30; leader 0 = NONE; beat 0 = LATE; length 0 = 2");
        run("7: a node of another epoch is not asked", 0, "crash 2 = true; elect 0 = 3; ship 0 1 = 1; crash 1 = true; "
            + "recover 2 = true; tick 30 = 30; beat 0 = 30; tick 9 = 39; leader 0 = 0; tick 1 = 40; leader 0 = NONE; "
            + "beat 0 = LATE; ship 0 2 = 1; beat 0 = 40; leader 0 = 0");
        run("7: the promises get longer", 0, "elect 0 = 3; tick 10 = 10; beat 0 = 10; crash 0 = true; tick 40 = 50; "
            + "elect 1 = 0; tick 1 = 51; elect 1 = 4");
        run("7: the promises do not get shorter", 5, "skew 1 5 = true; skew 2 5 = true; elect 0 = 3; skew 1 -5 = true; "
            + "skew 2 -5 = true; beat 0 = 6; crash 0 = true; skew 1 5 = true; skew 2 5 = true; tick 50 = 50; elect 1 = 0; "
            + "tick 1 = 51; elect 1 = 4");
        run("7: the promises are to the leading node", 0, "crash 0 = true; crash 1 = true; elect 2 = 0; recover 0 = true; "
            + "recover 1 = true; elect 0 = 3; ship 0 2 = 1; crash 1 = true; beat 0 = 1; elect 0 = 6");
        run("7: without a beat they are not", 0, "crash 0 = true; crash 1 = true; elect 2 = 0; recover 0 = true; "
            + "recover 1 = true; elect 0 = 3; ship 0 2 = 1; crash 1 = true; elect 0 = 0");
        run("7: LATE leaves the promise", 0, "elect 0 = 3; ship 0 1 = 1; crash 1 = true; crash 2 = true; tick 40 = 40; "
            + "beat 0 = LATE; length 0 = 1; recover 1 = true; tick 40 = 80; elect 1 = 0; tick 1 = 81; elect 1 = 7");
        run("7: FULL leaves the lease", 0, "elect 0 = 3; ship 0 1 = 1; 59 x tick 1, beat 0; length 0 = 60; tick 39 = 98; "
            + "leader 0 = 0; tick 1 = 99; leader 0 = NONE; beat 0 = FULL; leader 0 = 0; length 0 = 60; tick 39 = 138; "
            + "leader 0 = 0; tick 1 = 139; leader 0 = NONE");
        run("7: FULL leaves the promises and the lease", 0, "elect 0 = 3; ship 0 1 = 1; 59 x tick 1, beat 0; tick 10 = 69; beat 0 = FULL; "
            + "tick 39 = 108; leader 0 = 0; tick 1 = 109; leader 0 = NONE; elect 1 = 0; tick 1 = 110; elect 1 = 4");
        run("7: not active comes before FULL", 0, "elect 0 = 3; 59 x tick 1, beat 0; crash 1 = true; crash 2 = true; "
            + "tick 39 = 98; beat 0 = FULL; tick 1 = 99; beat 0 = LATE");
        run("7: LATE by the stamp", 10, "elect 3 = 3; 19 x beat 3; length 3 = 20; beat 3 = LATE; length 3 = 20; "
            + "tick 2 = 2; beat 3 = 30; beat 3 = 31; beat 3 = LATE");
        run("7: refusals", 5, "beat -1 = NONE; beat 6 = NONE; beat 0 = NONE; elect 0 = 3; beat 1 = NONE; beat 3 = NONE; "
            + "crash 0 = true; beat 0 = NONE; recover 0 = true; beat 0 = NONE; length 0 = 1");
    }

    private static void ships() {
        run("8: one entry a call", 0, "elect 0 = 3; beat 0 = 1; beat 0 = 2; ship 0 1 = 1; known 0 = 1; known 1 = 1; "
            + "ship 0 1 = 2; known 0 = 2; known 1 = 2; ship 0 2 = 1; known 2 = 1; known 0 = 2; ship 0 1 = 3; ship 0 1 = 3; "
            + "known 0 = 3; known 1 = 3; ship 0 2 = 2; known 2 = 2; length 2 = 2");
        run("8: entries of older epochs are known with one of its epoch", 0, "elect 0 = 3; beat 0 = 1; elect 0 = 6; "
            + "ship 0 1 = 1; known 0 = 0; known 1 = 0; ship 0 1 = 2; known 0 = 0; leader 0 = NONE; ship 0 1 = 3; known 0 = 3; "
            + "known 1 = 3; leader 0 = 0; ship 0 2 = 1; known 2 = 1");
        run("8: a log is cut behind what is the same", 0, "elect 0 = 3; ship 0 1 = 1; beat 0 = 1; beat 0 = 2; crash 0 = true; "
            + "tick 41 = 41; elect 1 = 4; recover 0 = true; length 0 = 3; known 0 = 1; ship 1 0 = 2; length 0 = 2; known 0 = 2; "
            + "known 1 = 2; safe 0 = 41");
        run("8: a log is cut to nothing and filled", 0, "elect 0 = 3; beat 0 = 1; beat 0 = 2; crash 0 = true; tick 41 = 41; "
            + "elect 1 = 4; beat 1 = 42; recover 0 = true; ship 1 0 = 1; known 0 = 1; ship 1 0 = 2; known 1 = 2; safe 0 = 42");
        run("8: a greater epoch is STALE", 0, "crash 2 = true; elect 0 = 3; ship 0 1 = 1; recover 2 = true; elect 2 = 0; "
            + "elect 2 = 0; leader 0 = 0; ship 0 2 = STALE; length 2 = 0; leader 0 = NONE; beat 0 = NONE; ship 0 2 = NONE; "
            + "ship 0 1 = NONE");
        run("8: a lesser epoch that was asked for is not", 0, "crash 2 = true; elect 0 = 3; ship 0 1 = 1; recover 2 = true; "
            + "elect 2 = 0; ship 0 2 = 1; leader 0 = 0");
        run("8: the other one gets the epoch", 0, "crash 2 = true; elect 0 = 3; recover 2 = true; ship 0 2 = 1; "
            + "crash 0 = true; tick 41 = 41; elect 2 = 5");
        run("8: and leads no more", 0, "elect 1 = 1; tick 41 = 41; elect 2 = 2; ship 1 2 = STALE; beat 1 = NONE");
        run("8: and leads no more", 0, "elect 1 = 1; tick 41 = 41; elect 2 = 2; ship 2 1 = 1; beat 1 = NONE; length 1 = 1; "
            + "known 1 = 1; leader 0 = 2");
        run("8: a node ships without a lease", 0, "elect 0 = 3; tick 50 = 50; ship 0 1 = 1; known 0 = 1; leader 0 = NONE; "
            + "beat 0 = 50; leader 0 = 0");
        run("8: refusals", 0, "elect 0 = 3; ship 0 0 = NONE; ship 0 3 = NONE; ship 3 0 = NONE; ship -1 0 = NONE; "
            + "ship 6 0 = NONE; ship 0 -1 = NONE; ship 0 6 = NONE; ship 1 0 = NONE; ship 1 2 = NONE; crash 1 = true; "
            + "ship 0 1 = NONE; crash 0 = true; ship 0 2 = NONE; length 1 = 0; length 2 = 0");
    }

    private static void begins() {
        run("9: numbers", 0, "begin = 0; begin = 1; abort 0 = true; begin = 2; state 2 = 0; state 3 = NONE");
        run("9: not more than 16", 0, "15 x begin; begin = 15; begin = NONE; abort 3 = true; begin = NONE; state 15 = 0; "
            + "state 16 = NONE");
    }

    private static void reads() {
        run("10: refusals", 0, LEADERS + "read 0 0 = NONE; begin = 0; read -1 0 = NONE; read 1 0 = NONE; read 16 0 = NONE; "
            + "read 0 -1 = NONE; read 0 8 = NONE; abort 0 = true; read 0 8 = NONE; read 0 0 = OVER; begin = 1; commit 1 = 3; "
            + "read 1 0 = OVER");
        run("10: every key is 0 at first", 0, LEADERS + "begin = 0; read 0 0 = 0; read 0 3 = 0; read 0 4 = 0; read 0 7 = 0");
        run("10: its own value, also without a ready node", 0, "begin = 0; read 0 3 = DOWN; write 0 3 7 = true; read 0 3 = 7; "
            + "read 0 2 = DOWN; write 0 3 0 = true; read 0 3 = 0; state 0 = 0");
        run("10: reading its own value does not hold the key", 0, LEADERS + "begin = 0; begin = 1; write 0 0 1 = true; "
            + "read 0 0 = 1; write 1 0 2 = true; commit 1 = 2; state 0 = 0");
        run("10: each group has its own ready node", 0, "elect 0 = 3; ship 0 1 = 1; begin = 0; read 0 3 = 0; read 0 4 = DOWN");
        run("10: the last version", 0, LEADERS + "begin = 0; write 0 1 5 = true; commit 0 = 2; ship 0 1 = 2; tick 2 = 2; "
            + "step 0 = 3; begin = 1; read 1 1 = 5; write 1 1 6 = true; commit 1 = 2; ship 0 2 = 1; begin = 2; read 2 1 = WAIT; "
            + "ship 0 1 = 3; read 2 1 = 6; read 2 0 = 0; state 1 = 2");
        run("10: a COMMIT holds until it is known, as other keys are free", 0, LEADERS + "begin = 0; write 0 1 5 = true; "
            + "commit 0 = 2; begin = 1; read 1 1 = WAIT; read 1 2 = 0; read 1 5 = 0; ship 0 1 = 2; read 1 1 = 5");
        run("10: what is only read is not held from readers", 0, LEADERS + "begin = 0; read 0 0 = 0; write 0 5 9 = true; "
            + "commit 0 = 1; begin = 1; read 1 0 = 0; read 1 5 = WAIT; state 1 = 0");
        run("10: a read that waits does not read", 0, LEADERS + "begin = 0; write 0 1 5 = true; commit 0 = 2; begin = 1; "
            + "read 1 1 = WAIT; ship 0 1 = 2; begin = 2; write 2 1 6 = true; commit 2 = 2; state 1 = 0");
        run("10: what it does not hold any more ends it", 0, LEADERS + "begin = 0; read 0 0 = 0; read 0 4 = 0; elect 0 = 6; "
            + "ship 0 1 = 2; read 0 4 = 0; state 0 = 0; read 0 1 = OVER; state 0 = 4; read 0 4 = OVER");
        run("10: DOWN comes before that", 0, LEADERS + "begin = 0; read 0 0 = 0; elect 0 = 6; read 0 0 = DOWN; state 0 = 0; "
            + "ship 0 1 = 2; read 0 0 = OVER; state 0 = 4");
        run("10: that comes before WAIT", 0, LEADERS + "begin = 0; begin = 1; read 0 0 = 0; elect 0 = 6; ship 0 1 = 2; "
            + "write 1 1 5 = true; commit 1 = 2; read 0 1 = OVER; state 0 = 4");
        run("10: it holds again what it read when a lease of that epoch is back", 0, LEADERS + "begin = 0; read 0 0 = 0; "
            + "tick 40 = 40; read 0 1 = DOWN; beat 0 = 40; read 0 1 = 0; state 0 = 0");
        run("10: the first read in a group counts", 0, LEADERS + "begin = 0; read 0 4 = 0; elect 3 = 6; ship 3 4 = 2; "
            + "read 0 0 = 0; read 0 5 = OVER; state 0 = 4");
    }

    private static void writes() {
        run("11: writes", 0, "begin = 0; write 0 0 0 = true; write 0 7 999 = true; read 0 0 = 0; read 0 7 = 999; "
            + "write 0 7 1 = true; read 0 7 = 1");
        run("11: refusals", 0, "write 0 0 1 = false; begin = 0; write -1 0 1 = false; write 1 0 1 = false; "
            + "write 16 0 1 = false; write 0 -1 1 = false; write 0 8 1 = false; write 0 0 -1 = false; write 0 0 1000 = false; "
            + "read 0 0 = DOWN; write 0 0 3 = true; write 0 0 1000 = false; read 0 0 = 3; abort 0 = true; write 0 0 4 = false");
        run("11: not after its commit", 0, LEADERS + "begin = 0; write 0 0 3 = true; commit 0 = 2; write 0 0 4 = false; "
            + "write 0 1 4 = false; ship 0 1 = 2; begin = 1; read 1 0 = 3; read 1 1 = 0");
        run("11: the last value counts when it is committed", 0, LEADERS + "begin = 0; write 0 0 3 = true; write 0 0 4 = true; "
            + "commit 0 = 2; ship 0 1 = 2; begin = 1; read 1 0 = 4");
        run("11: nothing of it is seen before", 0, LEADERS + "begin = 0; write 0 0 3 = true; begin = 1; read 1 0 = 0; "
            + "length 0 = 1");
    }

    private static void commitsRefused() {
        run("12: refusals", 0, "commit 0 = NONE; begin = 0; commit -1 = NONE; commit 1 = NONE; commit 16 = NONE; "
            + "commit 0 = 3; commit 0 = OVER; begin = 1; abort 1 = true; commit 1 = OVER; state 1 = 4");
        run("12: nothing read or written needs no node", 0, "begin = 0; commit 0 = 3; state 0 = 3; stamp 0 = 0");
        run("12: DOWN", 0, "elect 0 = 3; ship 0 1 = 1; begin = 0; write 0 0 1 = true; write 0 4 1 = true; commit 0 = DOWN; "
            + "state 0 = 0; length 0 = 1; begin = 1; write 1 4 1 = true; commit 1 = DOWN; begin = 2; write 2 0 1 = true; "
            + "commit 2 = 2");
        run("12: DOWN for what is only read", 0, LEADERS + "begin = 0; read 0 4 = 0; crash 3 = true; commit 0 = DOWN; "
            + "state 0 = 0");
        run("12: what it does not hold any more ends it", 0, LEADERS + "begin = 0; read 0 0 = 0; elect 0 = 6; ship 0 1 = 2; "
            + "commit 0 = 4; state 0 = 4; commit 0 = OVER");
        run("12: in group 1 too, with writes", 0, LEADERS + "begin = 0; write 0 0 1 = true; read 0 4 = 0; elect 3 = 6; "
            + "ship 3 4 = 2; commit 0 = 4; state 0 = 4; length 0 = 1; length 3 = 2");
        run("12: DOWN in one group before that in the other", 0, LEADERS + "begin = 0; read 0 0 = 0; write 0 4 1 = true; "
            + "elect 0 = 6; ship 0 1 = 2; crash 3 = true; commit 0 = DOWN; state 0 = 0");
        run("12: that before FULL", 0, "elect 0 = 3; ship 0 1 = 1; begin = 0; read 0 0 = 0; write 0 1 1 = true; elect 0 = 6; "
            + "ship 0 1 = 2; 58 x tick 1, beat 0; length 0 = 60; commit 0 = 4");
        run("12: only read", 0, LEADERS + "begin = 0; read 0 0 = 0; read 0 5 = 0; commit 0 = 3; state 0 = 3; stamp 0 = 0; "
            + "length 0 = 1; length 3 = 1");
        run("12: FULL", 0, "elect 0 = 3; ship 0 1 = 1; 59 x tick 1, beat 0; begin = 0; write 0 0 1 = true; commit 0 = FULL; "
            + "state 0 = 0; begin = 1; read 1 0 = 0; commit 1 = 3");
        run("12: FULL in group 1 before LATE in group 0", 10, "elect 3 = 3; ship 3 4 = 1; 59 x tick 1, beat 3; "
            + "length 3 = 60; elect 0 = 3; ship 0 1 = 1; 19 x beat 0; length 0 = 20; begin = 0; write 0 0 1 = true; "
            + "commit 0 = LATE; write 0 4 1 = true; commit 0 = FULL; state 0 = 0; length 0 = 20");
        run("12: LATE in a group that is only read", 10, "elect 3 = 3; ship 3 4 = 1; elect 0 = 3; ship 0 1 = 1; "
            + "19 x beat 3; begin = 0; read 0 4 = 0; write 0 0 1 = true; commit 0 = LATE; state 0 = 0; length 0 = 1; "
            + "length 3 = 20; begin = 1; read 1 4 = 0; commit 1 = 3; tick 1 = 1; commit 0 = LATE; beat 3 = 30; "
            + "commit 0 = LATE; tick 1 = 2; 1 x beat 3; tick 10 = 12; beat 3 = 32; commit 0 = 1");
        run("12: LATE before WAIT", 10, "elect 0 = 3; ship 0 1 = 1; begin = 0; read 0 0 = 0; begin = 1; write 1 0 1 = true; "
            + "commit 1 = WAIT; 19 x beat 0; commit 1 = LATE");
        run("12: FULL before WAIT", 0, "elect 0 = 3; ship 0 1 = 1; begin = 0; read 0 0 = 0; begin = 1; write 1 0 1 = true; "
            + "commit 1 = WAIT; 59 x tick 1, beat 0; commit 1 = FULL");
    }

    private static void commitsAndLocks() {
        run("12: one group", 0, LEADERS + "begin = 0; write 0 4 1 = true; commit 0 = 2; length 3 = 2; length 0 = 1; "
            + "state 0 = 2; commit 0 = OVER");
        run("12: two groups", 0, LEADERS + "begin = 0; write 0 4 1 = true; write 0 0 1 = true; commit 0 = 1; length 3 = 2; "
            + "length 0 = 2; state 0 = 1; commit 0 = OVER; abort 0 = false");
        run("12: two groups, one only read", 0, LEADERS + "begin = 0; write 0 4 1 = true; read 0 3 = 0; commit 0 = 1; "
            + "length 3 = 2; length 0 = 2");
        run("12: an older reader makes it wait", 0, LEADERS + "begin = 0; begin = 1; read 0 1 = 0; write 1 1 5 = true; "
            + "commit 1 = WAIT; state 1 = 0; length 0 = 1; commit 0 = 3; commit 1 = 2");
        run("12: not an older one that does not hold it any more", 0, LEADERS + "begin = 0; begin = 1; read 0 1 = 0; "
            + "elect 0 = 6; ship 0 1 = 2; write 1 1 5 = true; commit 1 = 2; state 0 = 0");
        run("12: not an older one that read another key", 0, LEADERS + "begin = 0; begin = 1; read 0 2 = 0; read 0 5 = 0; "
            + "write 1 1 5 = true; commit 1 = 2; state 0 = 0");
        run("12: younger readers are aborted", 0, LEADERS + "begin = 0; begin = 1; begin = 2; begin = 3; read 1 1 = 0; "
            + "read 2 2 = 0; read 3 1 = 0; read 3 5 = 0; write 0 1 5 = true; commit 0 = 2; state 1 = 4; state 2 = 0; state 3 = 4");
        run("12: not a younger one that does not hold it any more", 0, LEADERS + "begin = 0; begin = 1; read 1 1 = 0; "
            + "elect 0 = 6; ship 0 1 = 2; write 0 1 5 = true; commit 0 = 2; state 1 = 0; read 1 1 = OVER; state 1 = 4");
        run("12: who waits aborts nobody", 0, LEADERS + "begin = 0; begin = 1; begin = 2; read 0 1 = 0; read 2 2 = 0; "
            + "write 1 1 5 = true; write 1 2 5 = true; commit 1 = WAIT; state 2 = 0");
        run("12: its own reads are not in its way", 0, LEADERS + "begin = 0; read 0 1 = 0; write 0 1 5 = true; commit 0 = 2; "
            + "state 0 = 2");
        run("12: a COMMIT that is not known holds what it writes", 0, LEADERS + "begin = 0; write 0 1 5 = true; commit 0 = 2; "
            + "begin = 1; write 1 1 6 = true; commit 1 = WAIT; write 1 2 6 = true; commit 1 = WAIT; ship 0 1 = 2; commit 1 = 2");
        run("12: and what it read", 0, LEADERS + "begin = 0; read 0 3 = 0; write 0 1 5 = true; commit 0 = 2; begin = 1; "
            + "write 1 3 6 = true; commit 1 = WAIT; begin = 2; write 2 2 6 = true; commit 2 = 2; ship 0 1 = 2; commit 1 = 2");
        run("12: a PREPARE holds until COMMIT or OUTCOME is known", 0, LEADERS + "begin = 0; read 0 3 = 0; "
            + "write 0 5 5 = true; commit 0 = 1; begin = 1; write 1 3 6 = true; begin = 2; write 2 5 6 = true; "
            + "commit 1 = WAIT; commit 2 = WAIT; ship 0 1 = 2; ship 3 4 = 2; commit 1 = WAIT; commit 2 = WAIT; step 0 = 2; "
            + "commit 1 = WAIT; ship 0 1 = 3; commit 1 = 2; commit 2 = WAIT; tick 5 = 5; step 0 = 3; commit 2 = WAIT; "
            + "step 0 = 3; commit 2 = WAIT; ship 3 4 = 3; commit 2 = 2");
        run("12: it is older transactions that make wait, also in group 1", 0, LEADERS + "begin = 0; begin = 1; "
            + "read 0 6 = 0; write 1 0 1 = true; write 1 6 1 = true; commit 1 = WAIT; abort 0 = true; commit 1 = 1");
    }

    private static void aborts() {
        run("13: abort", 0, LEADERS + "begin = 0; abort 0 = true; state 0 = 4; abort 0 = false; begin = 1; commit 1 = 3; "
            + "abort 1 = false; state 1 = 3; begin = 2; write 2 0 1 = true; commit 2 = 2; abort 2 = false; state 2 = 2; "
            + "abort -1 = false; abort 3 = false; abort 16 = false");
        run("13: an aborted one holds nothing", 0, LEADERS + "begin = 0; read 0 1 = 0; begin = 1; write 1 1 5 = true; "
            + "commit 1 = WAIT; abort 0 = true; commit 1 = 2");
    }

    private static void stepsOfOneGroup() {
        run("14: refusals, and nothing for an active one", 0, "step 0 = NONE; begin = 0; step 0 = 0; step -1 = NONE; "
            + "step 1 = NONE; step 16 = NONE; state 0 = 0");
        run("14: it waits its stamp out", 0, LEADERS + "begin = 0; write 0 0 1 = true; commit 0 = 2; step 0 = 2; "
            + "tick 1 = 1; step 0 = 2; tick 1 = 2; step 0 = 2; ship 0 1 = 2; step 0 = 3; state 0 = 3; stamp 0 = 1");
        run("14: its stamp is below the earliest, by eps and skew", 5, "elect 0 = 3; ship 0 1 = 1; begin = 0; "
            + "write 0 0 1 = true; commit 0 = 2; ship 0 1 = 2; tick 11 = 11; step 0 = 2; skew 0 -5 = true; tick 5 = 16; "
            + "step 0 = 2; tick 1 = 17; step 0 = 3; stamp 0 = 6");
        run("14: in group 1", 0, LEADERS + "begin = 0; write 0 4 1 = true; commit 0 = 2; crash 0 = true; step 0 = 2; "
            + "ship 3 4 = 2; tick 2 = 2; step 0 = 3; stamp 0 = 1");
        run("14: DOWN", 0, LEADERS + "begin = 0; write 0 4 1 = true; commit 0 = 2; ship 3 4 = 2; tick 40 = 40; "
            + "step 0 = DOWN; state 0 = 2; beat 3 = 40; step 0 = 3");
        run("14: nothing more for a committed one", 0, LEADERS + "begin = 0; write 0 0 1 = true; commit 0 = 2; ship 0 1 = 2; "
            + "tick 2 = 2; step 0 = 3; step 0 = 3; length 0 = 2; length 3 = 1; begin = 1; abort 1 = true; step 1 = 4; length 0 = 2");
        run("14: a new leader that has the COMMIT goes on", 0, LEADERS + "begin = 0; write 0 0 7 = true; commit 0 = 2; "
            + "ship 0 1 = 2; crash 0 = true; tick 41 = 41; step 0 = DOWN; elect 1 = 4; step 0 = DOWN; ship 1 2 = 1; ship 1 2 = 2; "
            + "step 0 = DOWN; ship 1 2 = 3; step 0 = 3; stamp 0 = 1; begin = 1; read 1 0 = 7");
    }

    private static void stepsOfTwoGroups() {
        run("14: two phases", 0, LEADERS + "begin = 0; write 0 0 7 = true; write 0 4 8 = true; commit 0 = 1; step 0 = 1; "
            + "ship 0 1 = 2; step 0 = 1; ship 3 4 = 2; step 0 = 2; length 0 = 3; length 3 = 2; step 0 = 2; tick 3 = 3; step 0 = 2; "
            + "ship 0 1 = 3; step 0 = 3; stamp 0 = 2; length 3 = 2; step 0 = 3; length 3 = 3; length 0 = 3; step 0 = 3; "
            + "length 3 = 3; length 0 = 3; begin = 1; read 1 0 = 7; read 1 4 = WAIT; ship 3 4 = 3; read 1 4 = 8");
        run("14: only group 0 is not known", 0, LEADERS + "begin = 0; write 0 0 7 = true; write 0 4 8 = true; commit 0 = 1; "
            + "ship 3 4 = 2; step 0 = 1; length 0 = 2; ship 0 1 = 2; step 0 = 2");
        run("14: DOWN in either group", 0, LEADERS + "begin = 0; write 0 0 7 = true; write 0 4 8 = true; commit 0 = 1; "
            + "ship 0 1 = 2; ship 3 4 = 2; tick 40 = 40; step 0 = DOWN; beat 0 = 40; step 0 = DOWN; beat 3 = 40; step 0 = 2; "
            + "length 0 = 4; ship 0 1 = 3; ship 0 1 = 4; tick 2 = 42; crash 3 = true; step 0 = 3; stamp 0 = 41");
        run("14: the stamp is not below the PREPARE of group 1", 0, LEADERS + "9 x beat 3; beat 3 = 10; begin = 0; "
            + "write 0 0 7 = true; write 0 4 8 = true; commit 0 = 1; ship 0 1 = 2; 10 x ship 3 4; ship 3 4 = 12; step 0 = 2; "
            + "ship 0 1 = 3; tick 11 = 11; step 0 = 2; tick 1 = 12; step 0 = 3; stamp 0 = 11");
        run("14: the stamp is above the PREPARE of group 0", 0, LEADERS + "9 x beat 0; beat 0 = 10; begin = 0; "
            + "write 0 0 7 = true; write 0 4 8 = true; commit 0 = 1; ship 3 4 = 2; 10 x ship 0 1; ship 0 1 = 12; step 0 = 2; "
            + "ship 0 1 = 13; tick 12 = 12; step 0 = 2; tick 1 = 13; step 0 = 3; stamp 0 = 12");
        run("14: LATE by the PREPARE of group 1", 5, "skew 0 -5 = true; skew 3 5 = true; elect 0 = 3; ship 0 1 = 1; "
            + "elect 3 = 3; ship 3 4 = 1; 19 x beat 3; length 3 = 20; begin = 0; write 0 0 7 = true; write 0 4 8 = true; "
            + "commit 0 = 1; ship 0 1 = 2; 20 x ship 3 4; length 4 = 21; step 0 = LATE; state 0 = 1; length 0 = 2; "
            + "skew 0 -4 = true; beat 0 = 2; step 0 = 2");
        run("14: LATE and FULL of group 0 alone", 10, "elect 0 = 3; ship 0 1 = 1; elect 3 = 3; ship 3 4 = 1; begin = 0; "
            + "write 0 0 7 = true; write 0 4 8 = true; commit 0 = 1; ship 0 1 = 2; ship 3 4 = 2; 18 x beat 0; step 0 = LATE; "
            + "state 0 = 1; 40 x tick 1, beat 0, beat 3; length 0 = 60; step 0 = FULL; state 0 = 1");
    }

    private static void stepsThatLoseEntries() {
        run("14: a lost COMMIT of one group aborts", 0, LEADERS + "begin = 0; write 0 0 1 = true; commit 0 = 2; crash 0 = true; "
            + "tick 41 = 41; elect 1 = 4; step 0 = DOWN; ship 1 2 = 1; ship 1 2 = 2; step 0 = 4; state 0 = 4; stamp 0 = 0; "
            + "step 0 = 4; length 1 = 2; begin = 1; read 1 0 = 0");
        run("14: a lost COMMIT of two groups is written again", 0, LEADERS + "begin = 0; write 0 0 1 = true; "
            + "write 0 4 2 = true; commit 0 = 1; ship 0 1 = 2; ship 3 4 = 2; step 0 = 2; length 0 = 3; crash 0 = true; "
            + "tick 41 = 41; elect 1 = 4; ship 1 2 = 1; ship 1 2 = 2; ship 1 2 = 3; leader 0 = 1; step 0 = 1; state 0 = 1; "
            + "step 0 = DOWN; beat 3 = 41; step 0 = 2; length 1 = 4; ship 1 2 = 4; tick 2 = 43; step 0 = 3; stamp 0 = 42");
        run("14: a lost PREPARE of group 0 aborts", 0, LEADERS + "begin = 0; write 0 0 1 = true; write 0 4 2 = true; "
            + "commit 0 = 1; ship 3 4 = 2; crash 0 = true; tick 41 = 41; beat 3 = 41; elect 1 = 4; step 0 = DOWN; ship 1 2 = 1; "
            + "ship 1 2 = 2; step 0 = 4; length 3 = 3; begin = 1; read 1 0 = 0; read 1 4 = WAIT; step 0 = 4; length 3 = 4; "
            + "length 1 = 2; ship 3 4 = 3; read 1 4 = WAIT; ship 3 4 = 4; read 1 4 = 0; step 0 = 4; length 3 = 4");
        run("14: a lost PREPARE of group 1 aborts, known or not", 0, LEADERS + "begin = 0; write 0 0 1 = true; "
            + "write 0 4 2 = true; commit 0 = 1; crash 3 = true; tick 41 = 41; beat 0 = 41; elect 4 = 4; ship 4 5 = 1; ship 4 5 = 2; "
            + "leader 1 = 4; step 0 = 4; step 0 = 4; length 0 = 4; length 4 = 2; 3 x ship 0 1; length 1 = 4; known 0 = 4; "
            + "begin = 1; read 1 0 = 0; safe 0 = 42");
    }

    private static void outcomes() {
        run("14: an OUTCOME has a stamp of its own and the one of the transaction", 0, LEADERS + "9 x beat 0; beat 0 = 10; begin = 0; "
            + "write 0 0 7 = true; write 0 4 8 = true; commit 0 = 1; ship 3 4 = 2; 11 x ship 0 1; length 1 = 12; step 0 = 2; "
            + "ship 0 1 = 13; tick 13 = 13; step 0 = 3; stamp 0 = 12; tick 10 = 23; step 0 = 3; length 3 = 3; ship 3 4 = 3; "
            + "safe 3 = 23; snapshot 3 4 11 = 0; snapshot 3 4 12 = 8");
        run("14: an OUTCOME that is LATE is not written", 10, "elect 0 = 3; ship 0 1 = 1; elect 3 = 3; ship 3 4 = 1; "
            + "begin = 0; write 0 0 7 = true; write 0 4 8 = true; commit 0 = 1; ship 0 1 = 2; ship 3 4 = 2; step 0 = 2; "
            + "ship 0 1 = 3; tick 19 = 19; step 0 = 2; beat 0 = 29; tick 4 = 23; step 0 = 3; beat 3 = 33; 18 x beat 3; "
            + "beat 3 = 52; beat 3 = LATE; length 3 = 22; step 0 = 3; length 3 = 22; tick 1 = 24; beat 3 = 53; step 0 = 3; "
            + "length 3 = 23; tick 2 = 26; beat 3 = 54; step 0 = 3; length 3 = 25; step 0 = 3; length 3 = 25");
        run("14: an OUTCOME is not written in a full log", 0, LEADERS + "begin = 0; write 0 0 7 = true; write 0 4 8 = true; "
            + "commit 0 = 1; ship 0 1 = 2; ship 3 4 = 2; step 0 = 2; ship 0 1 = 3; 58 x tick 1, beat 0, beat 3; length 3 = 60; "
            + "step 0 = 3; step 0 = 3; length 3 = 60; begin = 1; read 1 4 = WAIT; read 1 0 = 7");
        run("14: an OUTCOME without a ready node is not written, the other one is", 0, LEADERS + "begin = 0; "
            + "write 0 0 7 = true; write 0 4 8 = true; commit 0 = 1; ship 0 1 = 2; ship 3 4 = 2; step 0 = 2; ship 0 1 = 3; "
            + "tick 3 = 3; step 0 = 3; crash 0 = true; crash 3 = true; step 0 = 3; length 3 = 2; tick 41 = 44; elect 4 = 4; "
            + "ship 4 5 = 1; ship 4 5 = 2; ship 4 5 = 3; step 0 = 3; length 4 = 4; ship 4 5 = 4; begin = 1; read 1 4 = 8");
    }

    private static void statesAndStamps() {
        run("15: states", 0, LEADERS + "state -1 = NONE; state 0 = NONE; state 16 = NONE; begin = 0; state 0 = 0; "
            + "write 0 0 1 = true; write 0 4 1 = true; commit 0 = 1; state 0 = 1; ship 0 1 = 2; ship 3 4 = 2; step 0 = 2; "
            + "state 0 = 2; ship 0 1 = 3; tick 5 = 5; step 0 = 3; state 0 = 3; begin = 1; abort 1 = true; state 1 = 4");
        run("16: stamps", 0, LEADERS + "stamp -1 = NONE; stamp 0 = NONE; stamp 16 = NONE; begin = 0; stamp 0 = 0; "
            + "write 0 0 1 = true; commit 0 = 2; stamp 0 = 0; ship 0 1 = 2; stamp 0 = 0; tick 5 = 5; stamp 0 = 0; step 0 = 3; "
            + "stamp 0 = 1; begin = 1; read 1 0 = 1; commit 1 = 3; stamp 1 = 0; begin = 2; write 2 0 3 = true; abort 2 = true; "
            + "stamp 2 = 0");
    }

    private static void snapshots() {
        String versions = "elect 3 = 3; ship 3 4 = 1; begin = 0; begin = 1; begin = 2; begin = 3; write 0 7 10 = true; "
            + "write 1 7 11 = true; write 2 7 12 = true; write 3 7 13 = true; commit 0 = 2; ship 3 4 = 2; tick 5 = 5; "
            + "commit 1 = 2; ship 3 4 = 3; tick 5 = 10; commit 2 = 2; ship 3 4 = 4; ";
        run("17: three versions are kept", 0, versions + "safe 3 = 10; snapshot 3 7 0 = 0; snapshot 3 7 1 = 10; "
            + "snapshot 3 7 4 = 10; snapshot 3 7 5 = 11; snapshot 3 7 9 = 11; snapshot 3 7 10 = 12; snapshot 3 7 11 = WAIT; "
            + "snapshot 4 7 10 = 12; snapshot 3 6 10 = 0");
        run("17: a fourth one pushes the first out", 0, versions + "tick 5 = 15; commit 3 = 2; snapshot 3 7 1 = 10; "
            + "ship 3 4 = 5; snapshot 3 7 0 = GONE; snapshot 3 7 4 = GONE; snapshot 3 7 5 = 11; snapshot 3 7 10 = 12; "
            + "snapshot 3 7 15 = 13; snapshot 3 7 16 = WAIT; snapshot 4 7 4 = GONE; snapshot 4 7 5 = 11; snapshot 3 6 0 = 0; "
            + "snapshot 5 7 0 = WAIT");
        run("17: each node by what it knows", 0, versions + "tick 5 = 15; commit 3 = 2; 4 x ship 3 5; known 5 = 4; "
            + "snapshot 5 7 1 = 10; ship 3 5 = 5; snapshot 5 7 1 = GONE; known 4 = 4; snapshot 4 7 1 = 10");
        run("17: refusals", 0, versions + "snapshot -1 7 0 = NONE; snapshot 6 7 0 = NONE; snapshot 3 -1 0 = NONE; "
            + "snapshot 3 8 0 = NONE; snapshot 3 3 0 = NONE; snapshot 0 4 0 = NONE; snapshot 3 7 -1 = NONE; "
            + "snapshot 3 7 -2147483648 = NONE; snapshot 3 7 2147483647 = WAIT; crash 3 = true; snapshot 3 7 1 = NONE; "
            + "recover 3 = true; snapshot 3 7 1 = 10; snapshot 0 0 0 = WAIT");
        run("17: a PREPARE makes wait", 0, LEADERS + "beat 0 = 1; beat 0 = 2; "
            + "ship 0 1 = 2; ship 0 1 = 3; begin = 0; write 0 0 7 = true; write 0 4 8 = true; commit 0 = 1; ship 0 1 = 4; "
            + "snapshot 0 0 2 = 0; snapshot 0 0 3 = WAIT; snapshot 0 1 3 = WAIT; snapshot 1 0 2 = 0; snapshot 1 0 3 = WAIT; "
            + "ship 3 4 = 2; step 0 = 2; snapshot 0 0 3 = WAIT; ship 0 1 = 5; snapshot 0 0 3 = 0; snapshot 0 0 4 = 7; "
            + "snapshot 1 0 4 = 7; snapshot 0 0 5 = WAIT; snapshot 3 4 0 = 0; snapshot 3 4 1 = WAIT; tick 5 = 5; step 0 = 3; "
            + "step 0 = 3; ship 3 4 = 3; snapshot 3 4 3 = 0; snapshot 3 4 4 = 8; snapshot 3 4 5 = 8; snapshot 3 4 6 = WAIT");
        run("17: an aborted one is no version", 0, LEADERS + "begin = 0; write 0 0 1 = true; write 0 4 2 = true; "
            + "commit 0 = 1; ship 3 4 = 2; crash 0 = true; tick 41 = 41; beat 3 = 41; elect 1 = 4; ship 1 2 = 1; ship 1 2 = 2; "
            + "step 0 = 4; step 0 = 4; ship 3 4 = 3; ship 3 4 = 4; safe 3 = 42; snapshot 3 4 42 = 0; snapshot 4 4 1 = 0");
    }

    private static void safeTimes() {
        run("18: refusals", 0, "safe -1 = NONE; safe 6 = NONE; safe 0 = NONE; elect 0 = 3; safe 0 = NONE; ship 0 1 = 1; "
            + "safe 0 = 0; safe 1 = 0; safe 2 = NONE");
        run("18: the last known entry", 5, "tick 7 = 7; elect 0 = 3; ship 0 1 = 1; safe 0 = 12; beat 0 = 13; safe 0 = 12; "
            + "ship 0 2 = 1; safe 2 = 12; ship 0 1 = 2; safe 0 = 13; safe 1 = 13; safe 2 = 12; crash 1 = true; safe 1 = 13");
        run("18: below the least PREPARE without an end", 0, LEADERS + "begin = 0; begin = 1; tick 10 = 10; "
            + "write 0 0 7 = true; write 0 4 8 = true; write 1 1 7 = true; write 1 5 8 = true; commit 0 = 1; safe 0 = 0; "
            + "ship 0 1 = 2; safe 0 = 9; tick 5 = 15; commit 1 = 1; ship 0 1 = 3; safe 0 = 9; ship 3 4 = 2; ship 3 4 = 3; "
            + "safe 3 = 9; beat 0 = 16; ship 0 1 = 4; safe 0 = 9; step 0 = 2; ship 0 1 = 5; safe 0 = 14; safe 1 = 14; step 1 = 2; "
            + "ship 0 1 = 6; safe 0 = 18; tick 4 = 19; step 0 = 3; step 1 = 3; step 1 = 3; ship 3 4 = 4; safe 3 = 9; step 0 = 3; "
            + "ship 3 4 = 5; safe 3 = 20; safe 4 = 20");
    }

    private static void lengthsKnownAndLeaders() {
        run("19, 20: refusals", 0, "length -1 = NONE; length 6 = NONE; known -1 = NONE; known 6 = NONE; length 5 = 0; known 5 = 0");
        run("19, 20: of nodes that are down too", 0, "elect 3 = 3; beat 3 = 1; ship 3 5 = 1; crash 3 = true; crash 5 = true; "
            + "length 3 = 2; known 3 = 1; length 5 = 1; known 5 = 1; length 4 = 0; known 4 = 0");
        run("21: refusals", 0, "leader -1 = NONE; leader 2 = NONE; leader 0 = NONE; leader 1 = NONE");
        run("21: ready, not only leading", 0, "elect 4 = 1; leader 1 = NONE; ship 4 3 = 1; leader 1 = 4; leader 0 = NONE; "
            + "tick 39 = 39; leader 1 = 4; tick 1 = 40; leader 1 = NONE; beat 4 = 40; leader 1 = 4; crash 4 = true; leader 1 = NONE");
        run("21: ready by its own epoch alone", 0, "elect 4 = 1; ship 4 3 = 1; elect 4 = 4; known 4 = 1; leader 1 = NONE; "
            + "ship 4 3 = 2; leader 1 = 4");
        run("21: active by the latest", 5, "elect 0 = 3; ship 0 1 = 1; tick 25 = 25; leader 0 = 0; skew 0 5 = true; "
            + "leader 0 = NONE; skew 0 4 = true; leader 0 = 0");
    }

    private static void run(String promise, int eps, String script) {
        Script.run(promise, eps, script);
    }

    private static void same(String what, int got, int due) {
        if (got != due) {
            Script.wrong(what + " is " + got + ", due is " + due);
        }
    }
}
