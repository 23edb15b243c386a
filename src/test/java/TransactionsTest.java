/** Promises 10 to 13: transactions. */
public final class TransactionsTest {
    private static final Script SCRIPT = new Script();

    // The database has version 1 and stores 0 and 1; tabs 0 and 1 are open; transaction 0 is done.
    private static final String READY = """
        open 0 1 = 2
        makeStore 0 0 = ok
        makeStore 0 1 = ok
        commit 0 = 0
        open 1 1 = 1
        """;

    public static void main(String[] args) {
        begin();
        beginWrong();
        readersAndWriters();
        scopes();
        queueIsFair();
        standing();
        commit();
        abort();
        undo();
        SCRIPT.end();
    }

    private static void begin() {
        SCRIPT.play("promise 10, begin", READY, """
            begin 0 1 0 = 1
            begin 1 2 1 = 2
            begin 0 3 0 = 3
            standing 1 = 1
            standing 2 = 1
            standing 3 = 0
            """);
    }

    private static void beginWrong() {
        SCRIPT.play("promise 10, wrong arguments", READY, """
            begin -1 1 0 = bounds
            begin 4 1 0 = bounds
            begin 4 0 0 = bounds   // the tab goes ahead of the scope
            begin 0 4 0 = bounds   // store 2 is not there
            begin 0 7 0 = bounds
            begin 2 4 0 = bounds   // a store goes ahead of the state
            begin 2 0 0 = argument // so does the scope
            begin 0 0 0 = argument
            begin 0 8 0 = argument
            begin 0 -1 0 = argument
            begin 0 -2147483648 1 = argument
            begin 2 1 0 = state    // closed
            open 2 2 = 3
            begin 2 1 0 = state    // blocked
            standing 1 = bounds
            59 x begin 0 1 0 = *
            standing 59 = 1
            begin 0 1 0 = state    // there are 60
            begin 0 8 0 = argument
            begin 0 4 0 = bounds
            standing 60 = bounds
            """);
        SCRIPT.play("promise 10, an upgrading tab", """
            open 0 1 = 2
            begin 0 1 0 = bounds
            makeStore 0 0 = ok
            begin 0 1 0 = state
            """);
    }

    private static void readersAndWriters() {
        SCRIPT.play("readers run together, writers alone", READY, """
            begin 0 1 0 = 1
            begin 1 1 0 = 2
            standing 2 = 1
            begin 0 1 1 = 3
            standing 3 = 0
            commit 1 = 0
            standing 3 = 0
            commit 2 = 1
            standing 3 = 1
            begin 1 1 1 = 4
            standing 4 = 0
            begin 1 1 0 = 5
            begin 1 1 0 = 6
            commit 3 = 1
            standing 4 = 1
            commit 4 = 2
            standing 5 = 1
            standing 6 = 1
            """);
    }

    private static void scopes() {
        SCRIPT.play("scopes without a common store", READY, """
            begin 0 1 1 = 1
            begin 0 2 1 = 2
            standing 2 = 1
            begin 1 3 1 = 3
            standing 3 = 0
            commit 1 = 0
            commit 2 = 1
            """);
    }

    private static void queueIsFair() {
        SCRIPT.play("a reader waits behind a waiting writer", READY, """
            begin 0 1 0 = 1
            begin 0 1 1 = 2
            begin 1 1 0 = 3        // it conflicts with 2 alone, which waits
            standing 3 = 0
            begin 1 2 0 = 4
            standing 4 = 1
            abort 2 = 1            // a waiting one is aborted
            standing 3 = 1
            """);
        SCRIPT.play("a chain of waiting ones", READY, """
            begin 0 1 1 = 1
            begin 0 3 1 = 2
            begin 0 2 1 = 3
            standing 3 = 0         // it waits for 2, not for 1
            begin 0 2 0 = 4
            commit 1 = 1
            standing 2 = 1
            standing 3 = 0
            abort 3 = 0            // 2 still runs
            standing 4 = 0
            commit 2 = 1
            standing 4 = 1
            """);
    }

    private static void standing() {
        SCRIPT.play("promise 11, standing", READY, """
            standing 0 = 2
            standing -1 = bounds
            standing 1 = bounds
            begin 0 1 1 = 1
            begin 0 1 1 = 2
            standing 1 = 1
            standing 2 = 0
            abort 2 = 0
            standing 2 = 3
            commit 1 = 0
            standing 1 = 2
            close 0 = 1
            open 0 2 = 3
            close 1 = 1
            standing 3 = 1
            close 0 = 2
            standing 3 = 3
            """);
    }

    private static void commit() {
        SCRIPT.play("promise 12, commit", READY, """
            commit -1 = bounds
            commit 1 = bounds
            commit 0 = state       // committed
            begin 0 1 1 = 1
            begin 0 1 1 = 2
            commit 2 = state       // waiting
            standing 2 = 0
            put 1 0 1 10 -1 -1 = true
            commit 1 = 1
            commit 1 = state
            get 2 0 1 = 10
            abort 2 = 0
            commit 2 = state       // aborted
            begin 1 1 0 = 3
            get 3 0 1 = 10
            """);
    }

    private static void abort() {
        SCRIPT.play("promise 13, abort", READY, """
            abort -1 = bounds
            abort 1 = bounds
            abort 0 = state        // committed
            begin 0 1 1 = 1
            begin 0 1 0 = 2
            begin 1 1 0 = 3
            begin 1 2 0 = 4
            abort 1 = 2
            standing 2 = 1
            standing 3 = 1
            abort 1 = state
            """);
        SCRIPT.play("promise 13, upgrades are not counted", """
            open 0 1 = 2
            open 1 2 = 3
            abort 0 = 0
            upgrade = 1
            standing 1 = 1
            state 0 = 0
            """);
        SCRIPT.play("promise 13, 60 transactions do not hinder others", READY, """
            59 x begin 0 1 0 = *
            open 2 2 = 3
            abort 59 = 0
            commit 58 = 0
            """);
    }

    private static void undo() {
        SCRIPT.play("all that was done is undone", READY, """
            begin 0 1 1 = 1
            put 1 0 1 10 1 2 = true
            put 1 0 2 20 1 2 = true
            put 1 0 3 30 1 2 = true
            commit 1 = 0
            begin 0 3 1 = 2
            begin 1 2 1 = 3
            put 2 0 1 11 5 5 = false
            put 2 0 1 12 6 6 = false
            remove 2 0 2 2 = 1
            put 2 0 4 40 4 4 = true
            put 2 1 4 40 4 4 = true
            cursor 2 0 -1 1 = 0
            step 0 = 4
            step 0 = 3
            update 0 31 = 30
            abort 2 = 1
            count 3 1 0 3999999 = 0
            begin 0 1 0 = 4
            get 4 0 1 = 10
            get 4 0 2 = 20
            get 4 0 3 = 30
            get 4 0 4 = -1
            step 0 = state
            update 0 5 = state
            """);
        SCRIPT.play("others' work stays", READY, """
            begin 0 1 1 = 1
            begin 1 2 1 = 2
            put 1 0 1 1 -1 -1 = true
            put 2 1 1 1 -1 -1 = true
            abort 1 = 0
            get 2 1 1 = 1
            put 2 1 2 2 -1 -1 = true
            commit 2 = 0
            begin 0 3 0 = 3
            get 3 0 1 = -1
            count 3 1 0 3999999 = 2
            """);
    }
}
