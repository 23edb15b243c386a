/** Promises 14 to 17: keys and rows. */
public final class RowsTest {
    private static final Script SCRIPT = new Script();

    // Stores 0 and 1; store 0 has a unique index for field 1; transaction 1 writes to store 0.
    private static final String READY = """
        open 0 1 = 2
        makeStore 0 0 = ok
        makeStore 0 1 = ok
        makeIndex 0 0 1 1 = ok
        commit 0 = 0
        begin 0 1 1 = 1
        """;
    private static final int[] KEYS_IN_ORDER = {
        0, 1, 10, 999, 1000000, 1000001, 1000999,
        2000001, 2000101, 2010101, 2010126, 2000102, 2010201, 2000126, 2012626,
        2000002, 2000201, 2020101, 2000226, 2000026, 2002601, 2002626, 2262626,
        3000000, 3000001, 3000999, 3001000, 3999000, 3999999};
    private static final int[] NO_KEYS = {
        -1, -1000000, 1000, 999999, 1001000, 1999999, 2000000, 2000027, 2000099, 2000100, 2000127,
        2002700, 2002726, 2010000, 2010001, 2010100, 2010127, 2012701, 2270101, 2999999, 4000000,
        2147483647, -2147483648};

    public static void main(String[] args) {
        keysAreInOrder();
        numbersThatTellNoKey();
        put();
        putRanges();
        putStates();
        putUnique();
        fortyRows();
        fortyRowsOfAllStores();
        remove();
        get();
        count();
        SCRIPT.end();
    }

    private static void keysAreInOrder() {
        StringBuilder run = new StringBuilder(READY);
        for (int i = KEYS_IN_ORDER.length - 1; i >= 0; i--) {
            run.append("put 1 0 ").append(KEYS_IN_ORDER[i]).append(" 5 -1 -1 = true\n");
        }
        run.append("cursor 1 0 -1 0 = 0\ncursor 1 0 -1 1 = 1\n");
        for (int i = 0; i < KEYS_IN_ORDER.length; i++) {
            int behind = KEYS_IN_ORDER.length - i;
            int last = KEYS_IN_ORDER[behind - 1];
            run.append("step 0 = ").append(KEYS_IN_ORDER[i]).append('\n');
            run.append("step 1 = ").append(last).append('\n');
            run.append("count 1 0 0 ").append(KEYS_IN_ORDER[i]).append(" = ").append(i + 1).append('\n');
            run.append("count 1 0 ").append(KEYS_IN_ORDER[i]).append(" 3999999 = ").append(behind).append('\n');
        }
        SCRIPT.play("the order of keys", run.toString());
    }

    private static void numbersThatTellNoKey() {
        for (int key : NO_KEYS) {
            String run = """
                put 1 0 KEY 1 1 1 = argument
                remove 1 0 KEY 1 = argument
                remove 1 0 1 KEY = argument
                get 1 0 KEY = argument
                count 1 0 KEY 1 = argument
                count 1 0 1 KEY = argument
                get 1 2 KEY = bounds
                get 0 0 KEY = argument
                """;
            SCRIPT.play("no key", READY, run.replace("KEY", String.valueOf(key)));
        }
    }

    private static void put() {
        SCRIPT.play("promise 14, put", READY, """
            put 1 0 5 50 7 8 = true
            get 1 0 5 = 50
            put 1 0 5 51 9 -1 = false
            get 1 0 5 = 51
            count 1 0 0 3999999 = 1
            put 1 0 1000005 52 -1 8 = true // 8 is free again
            get 1 0 1000005 = 52
            get 1 0 5 = 51
            """);
    }

    private static void putRanges() {
        SCRIPT.play("promise 14, ranges", READY, """
            put 1 0 1 0 0 0 = true
            put 1 0 2 9999 999 999 = true
            put 1 0 3 1 -1 -1 = true
            put 1 0 4 -1 1 1 = argument
            put 1 0 4 10000 1 1 = argument
            put 1 0 4 1 -2 1 = argument
            put 1 0 4 1 1000 1 = argument
            put 1 0 4 1 1 -2 = argument
            put 1 0 4 1 1 1000 = argument
            put 1 0 4 1 2147483647 -2147483648 = argument
            get 1 0 4 = -1
            put 2 0 4 -1 1 1 = bounds
            put 1 2 4 -1 1 1 = bounds
            put 1 3 4 1 1 1 = bounds
            put 1 -1 4 1 1 1 = bounds
            put -1 0 4 1 1 1 = bounds
            """);
    }

    private static void putStates() {
        SCRIPT.play("promise 14, states", READY, """
            put 1 1 4 1 1 1 = state     // not in the scope
            put 0 0 4 1 1 1 = state     // committed
            put 0 0 4 1 1 1000 = argument
            begin 0 1 0 = 2
            put 2 0 4 1 1 1 = state     // waiting
            commit 1 = 1
            put 1 0 4 1 1 1 = state
            put 2 0 4 1 1 1 = state     // does not write
            put 2 0 4 1 1 -2 = argument
            get 2 0 4 = -1
            abort 2 = 0
            put 2 0 4 1 1 1 = state
            """);
        SCRIPT.play("an upgrade has everything in its scope", """
            open 0 1 = 2
            makeStore 0 0 = ok
            makeStore 0 1 = ok
            makeStore 0 2 = ok
            put 0 0 1 1 1 1 = true
            put 0 1 1 2 1 1 = true
            put 0 2 1 3 1 1 = true
            get 0 2 1 = 3
            """);
    }

    private static void putUnique() {
        SCRIPT.play("promise 14, a unique index", READY, """
            put 1 0 5 50 7 1 = true
            put 1 0 6 60 7 1 = state
            get 1 0 6 = -1
            put 1 0 6 60 7 2 = true
            put 1 0 5 55 7 1 = false    // its own number is free for it
            put 1 0 5 56 7 2 = state
            get 1 0 5 = 55
            put 1 0 7 70 1 -1 = true
            put 1 0 8 80 1 -1 = true    // none is no number
            put 1 0 9 90 1 0 = true
            put 1 0 10 90 1 0 = state
            remove 1 0 5 5 = 1
            put 1 0 6 60 7 1 = false
            """);
    }

    private static void fortyRows() {
        StringBuilder run = new StringBuilder(READY);
        for (int i = 0; i < 40; i++) {
            run.append("put 1 0 ").append(100 + i).append(" 5 3 -1 = true\n");
        }
        SCRIPT.play("promise 14, forty rows", run.toString(), """
            put 1 0 1 5 3 -1 = state
            put 1 0 139 6 3 -1 = false
            get 1 0 139 = 6
            count 1 0 0 999 = 40
            remove 1 0 100 100 = 1
            put 1 0 1 5 3 -1 = true
            put 1 0 2 5 3 -1 = state
            """);
    }

    private static void fortyRowsOfAllStores() {
        StringBuilder run = new StringBuilder(READY);
        for (int i = 0; i < 25; i++) {
            run.append("put 1 0 ").append(100 + i).append(" 5 3 -1 = true\n");
        }
        run.append("commit 1 = 0\nbegin 0 1 1 = 2\nbegin 0 2 1 = 3\n");
        for (int i = 0; i < 15; i++) {
            run.append("put 3 1 ").append(100 + i).append(" 5 3 -1 = true\n");
        }
        run.append("put 3 1 500 5 3 -1 = state\nput 2 0 500 5 3 -1 = state\nremove 2 0 0 999 = 25\n");
        for (int i = 15; i < 40; i++) {
            run.append("put 3 1 ").append(100 + i).append(" 5 3 -1 = true\n");
        }
        SCRIPT.play("promise 14, rows come back by an abort", run.toString(), """
            put 3 1 500 5 3 -1 = state
            abort 2 = 0
            count 3 1 0 999 = 40
            begin 0 1 1 = 4
            count 4 0 0 999 = 25
            put 4 0 500 1 1 1 = state
            put 4 0 100 1 1 1 = false
            remove 4 0 101 124 = 24
            put 4 0 500 1 1 2 = state   // 41 in all
            remove 4 0 100 100 = 1
            put 4 0 500 1 1 2 = state   // 40 in all
            remove 3 1 100 100 = 1
            put 4 0 500 1 1 2 = true
            put 3 1 500 1 1 2 = state
            """);
    }

    private static void remove() {
        SCRIPT.play("promise 15, remove", READY, """
            put 1 0 5 50 -1 -1 = true
            put 1 0 6 60 -1 -1 = true
            put 1 0 7 70 -1 -1 = true
            put 1 0 1000000 80 -1 -1 = true
            put 1 0 2000001 1 -1 -1 = true
            put 1 0 2000002 2 -1 -1 = true
            put 1 0 2010101 3 -1 -1 = true
            remove 1 0 6 5 = 0
            remove 1 0 8 999 = 0
            remove 1 0 6 6 = 1
            remove 1 0 6 6 = 0
            remove 1 0 5 7 = 2
            remove 1 0 2000001 2010101 = 2
            get 1 0 2000002 = 2
            remove 1 0 1000000 2000002 = 2
            count 1 0 0 3999999 = 0
            """);
        SCRIPT.play("promise 15, wrong", READY, """
            put 1 0 5 50 -1 -1 = true
            remove 2 0 1000 5 = bounds
            remove 1 2 5 1000 = bounds
            remove 1 3 5 5 = bounds
            remove 1 1 5 1000 = argument
            remove 1 1 5 5 = state
            remove 0 0 5 5 = state
            remove 0 0 6 5 = state
            commit 1 = 0
            remove 1 0 5 5 = state
            begin 0 1 0 = 2
            remove 2 0 5 5 = state
            remove 2 0 5 1000 = argument
            get 2 0 5 = 50
            """);
    }

    private static void get() {
        SCRIPT.play("promise 16, get", READY, """
            put 1 0 5 0 -1 -1 = true
            get 1 0 5 = 0
            get 1 0 1000005 = -1
            get 1 0 6 = -1
            get 2 0 5 = bounds
            get -1 0 5 = bounds
            get 1 2 5 = bounds
            get 1 -1 5 = bounds
            get 1 1 1000 = argument
            get 1 1 5 = state
            get 0 0 5 = state
            begin 0 1 0 = 2
            get 2 0 5 = state
            commit 1 = 1
            get 1 0 5 = state
            get 2 0 5 = 0
            """);
    }

    private static void count() {
        SCRIPT.play("promise 17, count", READY, """
            put 1 0 5 0 -1 -1 = true
            put 1 0 9 0 -1 -1 = true
            put 1 0 3005009 0 -1 -1 = true
            put 1 0 3009000 0 -1 -1 = true
            count 1 0 5 9 = 2
            count 1 0 6 8 = 0
            count 1 0 5 5 = 1
            count 1 0 9 5 = 0
            count 1 0 9 3005009 = 2
            count 1 0 3005010 3008999 = 0
            count 2 0 5 9 = bounds
            count 1 2 5 9 = bounds
            count 1 1 5 1000 = argument
            count 1 1 5 9 = state
            count 0 0 5 9 = state
            begin 0 1 0 = 2
            count 2 0 5 9 = state
            commit 1 = 1
            count 1 0 5 9 = state
            count 2 0 5 9 = 2
            """);
    }
}
