/** The boundary cases that the document names of transactions, promises 10 to 13: a run for each sentence. */
public final class TransactionEdgesTest {
    private static final Script SCRIPT = new Script();

    // The database has version 1 and stores 0, 1 and 2; tabs 0 and 1 are open; transaction 0 is committed.
    private static final String READY = """
        open 0 1 = 2
        makeStore 0 0 = ok
        makeStore 0 1 = ok
        makeStore 0 2 = ok
        commit 0 = 0
        open 1 1 = 1
        """;
    // Of the stores 0, 1 and 2 the one is missing; tab 0 is open.
    private static final String WITHOUT_0 = "open 0 1 = 2\nmakeStore 0 1 = ok\nmakeStore 0 2 = ok\ncommit 0 = 0\n";
    private static final String WITHOUT_1 = "open 0 1 = 2\nmakeStore 0 0 = ok\nmakeStore 0 2 = ok\ncommit 0 = 0\n";
    private static final String WITHOUT_2 = "open 0 1 = 2\nmakeStore 0 0 = ok\nmakeStore 0 1 = ok\ncommit 0 = 0\n";

    public static void main(String[] args) {
        beginTabs();
        beginScopes();
        beginMissingStores();
        beginInEachState();
        beginSixty();
        beginOrderOfExceptions();
        conflicts();
        waiting();
        standing();
        commitRange();
        commitInEachStanding();
        commitFrees();
        abortRange();
        abortInEachStanding();
        abortFrees();
        abortWithSixty();
        abortUndoes();
        SCRIPT.end();
    }

    private static void beginTabs() {
        SCRIPT.play("10: tab is 0 to 3", READY, """
            open 3 1 = 1
            begin 0 1 0 = 1
            begin 3 1 0 = 2
            begin -1 1 0 = bounds
            begin 4 1 0 = bounds
            begin 2147483647 1 0 = bounds
            begin -2147483648 1 0 = bounds
            """);
    }

    private static void beginScopes() {
        SCRIPT.play("10: scope is 1 to 7, the least and the greatest", READY, """
            begin 0 1 0 = 1
            begin 0 7 0 = 2
            get 1 0 1 = -1
            get 2 0 1 = -1
            get 2 1 1 = -1
            get 2 2 1 = -1
            """);
        SCRIPT.play("10: scope is not 1 to 7", READY, """
            begin 0 0 0 = argument
            begin 0 8 0 = argument
            begin 0 -1 0 = argument
            begin 0 9 1 = argument
            begin 0 2147483647 1 = argument
            begin 0 -2147483648 1 = argument
            begin 0 -2147483647 1 = argument
            standing 1 = bounds
            """);
        SCRIPT.play("10: bit s for store s", READY, """
            begin 0 1 0 = 1
            begin 0 2 0 = 2
            begin 0 4 0 = 3
            begin 0 3 0 = 4
            begin 0 5 0 = 5
            begin 0 6 0 = 6
            get 1 0 1 = -1
            get 1 1 1 = state
            get 1 2 1 = state
            get 2 0 1 = state
            get 2 1 1 = -1
            get 2 2 1 = state
            get 3 0 1 = state
            get 3 1 1 = state
            get 3 2 1 = -1
            get 4 0 1 = -1
            get 4 1 1 = -1
            get 4 2 1 = state
            get 5 0 1 = -1
            get 5 1 1 = state
            get 5 2 1 = -1
            get 6 0 1 = state
            get 6 1 1 = -1
            get 6 2 1 = -1
            """);
    }

    private static void beginMissingStores() {
        SCRIPT.play("10: scope has a store that is not there, store 0", WITHOUT_0, """
            begin 0 1 0 = bounds
            begin 0 3 0 = bounds
            begin 0 5 0 = bounds
            begin 0 7 0 = bounds
            begin 0 6 0 = 1
            """);
        SCRIPT.play("10: scope has a store that is not there, store 1", WITHOUT_1, """
            begin 0 2 0 = bounds
            begin 0 3 0 = bounds
            begin 0 6 0 = bounds
            begin 0 7 0 = bounds
            begin 0 5 0 = 1
            """);
        SCRIPT.play("10: scope has a store that is not there, store 2", WITHOUT_2, """
            begin 0 4 0 = bounds
            begin 0 5 0 = bounds
            begin 0 6 0 = bounds
            begin 0 7 0 = bounds
            begin 0 3 0 = 1
            """);
        SCRIPT.play("10: there is no store at all", "open 0 1 = 2\ncommit 0 = 0\n", """
            begin 0 1 0 = bounds
            begin 0 7 1 = bounds
            begin 0 0 0 = argument
            begin 0 8 0 = argument
            """);
        SCRIPT.play("10: a store that was deleted is not there", WITHOUT_2, """
            close 0 = 1
            open 0 2 = 2
            deleteStore 1 1 = 0
            commit 1 = 0
            begin 0 2 0 = bounds
            begin 0 1 0 = 2
            """);
    }

    private static void beginInEachState() {
        SCRIPT.play("10: the tab is not open, but closed", READY, "begin 2 1 0 = state");
        SCRIPT.play("10: the tab is not open, but blocked", READY, "open 2 2 = 3\nbegin 2 1 0 = state\nbegin 0 1 0 = 1");
        SCRIPT.play("10: the tab is not open, but upgrading", """
            open 0 1 = 2
            makeStore 0 0 = ok
            begin 0 1 0 = state
            begin 0 1 1 = state
            commit 0 = 0
            begin 0 1 1 = 1
            """);
    }

    private static void beginSixty() {
        SCRIPT.play("10: there are 59 transactions, and 60", READY, """
            58 x begin 0 1 0 = *
            standing 59 = bounds
            begin 0 1 0 = 59
            standing 59 = 1
            begin 0 1 0 = state
            begin 1 1 1 = state
            standing 60 = bounds
            """);
        SCRIPT.play("10: there are 60 transactions, all of them over", READY, """
            begin 0 1 1 = 1
            58 x begin 0 1 1 = *
            abort 59 = 0
            commit 1 = 1
            close 0 = 1
            begin 1 1 1 = state
            """);
        SCRIPT.play("10: there are 60 transactions, the last one an upgrade that is aborted", READY, """
            58 x begin 0 1 0 = *
            close 0 = 1
            close 1 = 1
            open 0 2 = 2
            upgrade = 59
            abort 59 = 0
            open 0 1 = 1
            begin 0 1 0 = state
            """);
    }

    private static void beginOrderOfExceptions() {
        SCRIPT.play("10: IndexOutOfBoundsException, then IllegalArgumentException, then IllegalStateException", WITHOUT_2, """
            begin 4 0 0 = bounds       // the tab, and the scope is out of range
            begin -1 8 0 = bounds
            begin 4 4 0 = bounds
            begin 1 4 0 = bounds       // a store, and the tab is closed
            begin 1 0 0 = argument     // the scope, and the tab is closed
            begin 1 8 0 = argument
            begin 1 1 0 = state
            59 x begin 0 1 0 = *
            begin 4 1 0 = bounds       // there are 60
            begin 0 4 0 = bounds
            begin 0 0 0 = argument
            begin 0 8 0 = argument
            begin 0 1 0 = state
            """);
    }

    private static void conflicts() {
        SCRIPT.play("Terms: they conflict if one of them writes, the earlier one", READY, "begin 0 1 1 = 1\nbegin 1 1 0 = 2\nstanding 2 = 0");
        SCRIPT.play("Terms: they conflict if one of them writes, the later one", READY, "begin 0 1 0 = 1\nbegin 1 1 1 = 2\nstanding 2 = 0");
        SCRIPT.play("Terms: they conflict if both of them write", READY, "begin 0 1 1 = 1\nbegin 1 1 1 = 2\nstanding 2 = 0");
        SCRIPT.play("Terms: none of them writes", READY, "begin 0 7 0 = 1\nbegin 1 7 0 = 2\nstanding 2 = 1");
        SCRIPT.play("Terms: their scopes have one store in common", READY, """
            begin 0 3 1 = 1
            begin 1 6 0 = 2
            standing 2 = 0
            begin 1 5 0 = 3
            standing 3 = 0
            """);
        SCRIPT.play("Terms: their scopes have no store in common", READY, """
            begin 0 1 1 = 1
            begin 1 6 1 = 2
            standing 2 = 1
            """);
        SCRIPT.play("Terms: of the same tab, too", READY, "begin 0 4 1 = 1\nbegin 0 4 1 = 2\nstanding 2 = 0");
    }

    private static void waiting() {
        SCRIPT.play("Terms: there is an earlier one, running, with which it conflicts", READY, """
            begin 0 1 1 = 1
            begin 1 1 1 = 2
            standing 1 = 1
            standing 2 = 0
            """);
        SCRIPT.play("Terms: there is an earlier one, waiting, with which it conflicts", READY, """
            begin 0 1 1 = 1
            begin 0 3 1 = 2
            begin 1 2 0 = 3
            standing 2 = 0
            standing 3 = 0
            abort 2 = 1
            standing 3 = 1
            """);
        SCRIPT.play("Terms: the earlier ones with which it conflicts are committed or aborted", READY, """
            begin 0 1 1 = 1
            commit 1 = 0
            begin 0 1 1 = 2
            abort 2 = 0
            begin 1 1 1 = 3
            standing 3 = 1
            """);
        SCRIPT.play("Terms: it waits for an earlier one only, not for a later one", READY, """
            begin 0 1 1 = 1
            begin 0 1 0 = 2
            begin 0 1 1 = 3
            commit 1 = 1
            standing 2 = 1
            standing 3 = 0
            """);
        SCRIPT.play("Terms: it waits for the last one of several", READY, """
            begin 0 1 1 = 1
            begin 0 2 1 = 2
            begin 0 4 1 = 3
            begin 1 7 0 = 4
            commit 2 = 0
            commit 1 = 0
            standing 4 = 0
            commit 3 = 1
            standing 4 = 1
            """);
    }

    private static void standing() {
        SCRIPT.play("11: returns 0 to 3", READY, """
            begin 0 1 1 = 1
            begin 0 1 1 = 2
            begin 0 1 1 = 3
            abort 3 = 0
            standing 0 = 2
            standing 1 = 1
            standing 2 = 0
            standing 3 = 3
            """);
        SCRIPT.play("11: no such transaction", "standing 0 = bounds\nstanding -1 = bounds\n", READY, """
            standing -1 = bounds
            standing 1 = bounds
            standing 2147483647 = bounds
            standing -2147483648 = bounds
            standing 0 = 2
            """);
        SCRIPT.play("11: the greatest transaction", READY, """
            59 x begin 0 1 0 = *
            standing 59 = 1
            standing 60 = bounds
            """);
    }

    private static void commitRange() {
        SCRIPT.play("12: no such transaction", "commit 0 = bounds\n", READY, """
            begin 0 1 1 = 1
            commit -1 = bounds
            commit 2 = bounds
            commit 2147483647 = bounds
            commit -2147483648 = bounds
            commit 1 = 0
            """);
    }

    private static void commitInEachStanding() {
        SCRIPT.play("12: it is not running, but waiting", READY, "begin 0 1 1 = 1\nbegin 0 1 1 = 2\ncommit 2 = state\nstanding 2 = 0");
        SCRIPT.play("12: it is not running, but committed", READY, "commit 0 = state\nbegin 0 1 1 = 1\ncommit 1 = 0\ncommit 1 = state");
        SCRIPT.play("12: it is not running, but aborted", READY, "begin 0 1 1 = 1\nabort 1 = 0\ncommit 1 = state\nstanding 1 = 3");
        SCRIPT.play("12: it is not running, but aborted by a close", READY, "begin 0 1 1 = 1\nclose 0 = 1\ncommit 1 = state");
        SCRIPT.play("12: it is not running, an upgrade that is over", """
            open 0 1 = 2
            commit 0 = 0
            commit 0 = state
            close 0 = 1
            open 0 2 = 2
            abort 1 = 0
            commit 1 = state
            version = 1
            """);
    }

    private static void commitFrees() {
        SCRIPT.play("12: returns how many others begin to run, none, one and many", READY, """
            begin 0 1 1 = 1
            begin 0 1 1 = 2
            begin 0 1 0 = 3
            begin 1 1 0 = 4
            begin 1 1 0 = 5
            begin 1 1 1 = 6
            commit 1 = 1
            commit 2 = 3
            commit 3 = 0
            commit 4 = 0
            commit 5 = 1
            commit 6 = 0
            """);
        SCRIPT.play("12: returns how many others, 58", READY, """
            begin 0 1 1 = 1
            58 x begin 1 1 0 = *
            commit 1 = 58
            standing 59 = 1
            """);
        SCRIPT.play("12: it is no upgrade, so the version and the tabs stay", READY, """
            open 2 5 = 3
            close 2 = 3
            open 2 1 = 1
            begin 1 1 0 = 1
            begin 2 1 0 = 2
            commit 1 = 0
            version = 1
            commit 2 = 0
            version = 1
            state 1 = 1
            state 2 = 1
            """);
        SCRIPT.play("12: an upgrade frees none, the blocked one waits", """
            open 0 1 = 2
            open 1 2 = 3
            commit 0 = 0
            state 1 = 3
            """);
    }

    private static void abortRange() {
        SCRIPT.play("13: no such transaction", "abort 0 = bounds\n", READY, """
            begin 0 1 1 = 1
            abort -1 = bounds
            abort 2 = bounds
            abort 2147483647 = bounds
            abort -2147483648 = bounds
            abort 1 = 0
            """);
    }

    private static void abortInEachStanding() {
        SCRIPT.play("13: waiting", READY, "begin 0 1 1 = 1\nbegin 0 1 1 = 2\nabort 2 = 0\nstanding 2 = 3\nstanding 1 = 1");
        SCRIPT.play("13: running", READY, "begin 0 1 1 = 1\nabort 1 = 0\nstanding 1 = 3");
        SCRIPT.play("13: it is neither, but committed", READY, "abort 0 = state\nstanding 0 = 2");
        SCRIPT.play("13: it is neither, but aborted", READY, "begin 0 1 1 = 1\nabort 1 = 0\nabort 1 = state");
        SCRIPT.play("13: it is neither, an upgrade that is over", """
            open 0 1 = 2
            abort 0 = 0
            abort 0 = state
            open 0 1 = 2
            commit 1 = 0
            abort 1 = state
            version = 1
            state 0 = 1
            """);
    }

    private static void abortFrees() {
        SCRIPT.play("13: returns how many others begin to run, none, one and many", READY, """
            begin 0 1 1 = 1
            begin 0 1 1 = 2
            begin 0 1 0 = 3
            begin 1 1 0 = 4
            begin 1 1 1 = 5
            abort 1 = 1
            abort 2 = 2
            abort 3 = 0
            abort 4 = 1
            abort 5 = 0
            """);
        SCRIPT.play("13: a waiting one that is aborted frees others", READY, """
            begin 0 1 0 = 1
            begin 0 1 1 = 2
            begin 1 1 0 = 3
            begin 1 1 0 = 4
            abort 2 = 2
            standing 3 = 1
            """);
        SCRIPT.play("13: returns how many others, 58", READY, """
            begin 0 1 1 = 1
            58 x begin 1 1 0 = *
            abort 1 = 58
            """);
        SCRIPT.play("13: upgrades not counted", """
            open 0 1 = 2
            open 1 2 = 3
            abort 0 = 0
            upgrade = 1
            """);
    }

    private static void abortWithSixty() {
        String upgradeIsTheLast = "58 x begin 0 1 0 = *\nopen 2 2 = 3\nopen 3 3 = 3\nclose 0 = 1\nclose 1 = 1\nupgrade = 59\n";
        SCRIPT.play("13: an upgrade of another tab would begin and there are 60 transactions", READY, upgradeIsTheLast, """
            makeStore 59 0 = state
            put 59 0 1 10 1 1 = true
            abort 59 = state
            standing 59 = 1
            get 59 0 1 = 10
            state 2 = 2
            upgrade = 59
            """);
        SCRIPT.play("13: no upgrade of another tab would begin and there are 60 transactions", READY, upgradeIsTheLast, """
            close 3 = 3
            abort 59 = 0
            state 2 = 0
            """);
        SCRIPT.play("13: an upgrade of another tab would begin and there are 59 transactions", READY, """
            57 x begin 0 1 0 = *
            open 2 2 = 3
            open 3 3 = 3
            close 0 = 1
            close 1 = 1
            upgrade = 58
            abort 58 = 0
            upgrade = 59
            state 2 = 0
            state 3 = 2
            abort 59 = 0
            """);
        SCRIPT.play("13: 60 transactions and a blocked tab, but it is no upgrade that is aborted", READY, """
            59 x begin 0 1 1 = *
            open 2 2 = 3
            close 1 = 1
            abort 59 = 0
            abort 1 = 1
            """);
    }

    private static void abortUndoes() {
        SCRIPT.play("Terms: all that was done in it is undone: nothing", READY, """
            begin 0 1 1 = 1
            put 1 0 1 10 -1 -1 = true
            commit 1 = 0
            begin 0 1 1 = 2
            abort 2 = 0
            begin 0 1 0 = 3
            get 3 0 1 = 10
            """);
        SCRIPT.play("Terms: all that was done in it is undone: a row put, put again, updated and removed", READY, """
            begin 0 1 1 = 1
            put 1 0 1 10 1 2 = true
            put 1 0 2 20 3 4 = true
            put 1 0 3 30 5 6 = true
            commit 1 = 0
            begin 0 1 1 = 2
            cursor 2 0 -1 0 = 0
            put 2 0 1 11 7 8 = false
            step 0 = 1
            update 0 12 = 11
            step 0 = 2
            update 0 21 = 20
            remove 2 0 3 3 = 1
            put 2 0 4 40 -1 -1 = true
            abort 2 = 0
            begin 0 1 0 = 3
            get 3 0 1 = 10
            get 3 0 2 = 20
            get 3 0 3 = 30
            get 3 0 4 = -1
            """);
        SCRIPT.play("Terms: one that waited undoes what it did alone", READY, """
            begin 0 1 1 = 1
            begin 1 1 1 = 2
            put 1 0 1 10 -1 -1 = true
            commit 1 = 1
            put 2 0 1 11 -1 -1 = false
            put 2 0 2 20 -1 -1 = true
            abort 2 = 0
            begin 0 1 0 = 3
            get 3 0 1 = 10
            get 3 0 2 = -1
            """);
        SCRIPT.play("Terms: a waiting one has done nothing, so what another one did stays", READY, """
            begin 0 1 1 = 1
            put 1 0 1 10 -1 -1 = true
            begin 1 1 1 = 2
            put 1 0 2 20 -1 -1 = true
            abort 2 = 0
            get 1 0 1 = 10
            get 1 0 2 = 20
            """);
        SCRIPT.play("Terms: one that reads alone has done nothing, so what another one did stays", READY, """
            begin 0 1 0 = 1
            begin 0 2 1 = 2
            put 2 1 1 10 -1 -1 = true
            abort 1 = 0
            get 2 1 1 = 10
            """);
    }
}
