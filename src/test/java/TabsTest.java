/** Promises 1 to 9: tabs and upgrades. */
public final class TabsTest {
    private static final Script SCRIPT = new Script();

    // The database has version 1 and store 0; tab 0 is open; transaction 0 is done.
    private static final String READY = """
        open 0 1 = 2
        makeStore 0 0 = ok
        commit 0 = 0
        """;
    private static final String FIFTY_NINE_MORE = "59 x begin 0 1 0 = *\n";

    public static void main(String[] args) {
        newObject();
        open();
        openWaits();
        openInItsTurn();
        openWithoutRoom();
        close();
        closeAbortsTransactions();
        closeWithoutRoom();
        stateVersionAndUpgrade();
        makeStore();
        deleteStore();
        makeIndex();
        makeUniqueIndex();
        upgradeIsUndoneWhole();
        SCRIPT.end();
    }

    private static void newObject() {
        SCRIPT.play("promise 1, a new object", """
            version = 0
            upgrade = -1
            state 0 = 0
            state 1 = 0
            state 2 = 0
            state 3 = 0
            standing 0 = bounds
            step 0 = bounds
            begin 0 1 0 = bounds
            """);
    }

    private static void open() {
        SCRIPT.play("promise 2, open", READY, """
            open 1 1 = 1
            state 1 = 1
            open 1 1 = state       // it is open
            open 2 0 = argument
            open 2 101 = argument
            open 4 0 = bounds      // the tab goes first
            open -1 1 = bounds
            open 0 0 = argument    // the version goes ahead of the state
            open 2 100 = 3
            open 2 100 = state     // it is blocked
            open 3 2 = 3
            version = 1
            """);
        SCRIPT.play("promise 2, an older version", """
            open 0 5 = 2
            open 1 4 = 3           // the version is still 0
            commit 0 = 0
            version = 5
            open 2 4 = state
            open 2 5 = 1
            state 1 = 3
            """);
        SCRIPT.play("promise 2, the same version while a tab is upgrading", READY, """
            close 0 = 1
            open 0 2 = 2
            open 0 2 = state
            open 1 1 = state
            open 1 2 = 3
            open 2 1 = state
            abort 1 = 0
            state 0 = 0
            state 1 = 2
            upgrade = 2
            """);
        SCRIPT.play("promise 2, the greatest version", """
            open 3 100 = 2
            commit 0 = 0
            version = 100
            state 3 = 1
            open 2 100 = 1
            """);
    }

    private static void openWaits() {
        SCRIPT.play("promise 2, an upgrade waits for the other tabs", READY, """
            open 1 1 = 1
            open 2 2 = 3
            upgrade = -1
            close 0 = 1
            state 2 = 3
            close 1 = 1
            state 2 = 2
            upgrade = 1
            standing 1 = 1
            version = 1
            """);
    }

    private static void openInItsTurn() {
        SCRIPT.play("the first one that was blocked goes first", READY, """
            open 3 3 = 3
            open 1 2 = 3
            open 2 4 = 3
            close 0 = 1
            state 3 = 2
            state 1 = 3
            state 2 = 3
            commit 1 = 0
            version = 3
            close 3 = 1
            state 1 = 0            // 2 is less than 3 by now: it is looked at the next one
            state 2 = 2
            upgrade = 2
            """);
        SCRIPT.play("who is blocked anew goes last", READY, """
            open 1 2 = 3
            open 2 3 = 3
            close 1 = 3
            open 1 4 = 3
            close 0 = 1
            state 2 = 2
            state 1 = 3
            """);
        SCRIPT.play("the same version by then closes, too", READY, """
            open 1 2 = 3
            open 2 2 = 3
            open 3 2 = 3
            close 0 = 1
            commit 1 = 0
            state 2 = 3
            close 1 = 1
            state 2 = 0
            state 3 = 0
            upgrade = -1
            open 3 2 = 1
            """);
        SCRIPT.play("after an undone upgrade the next one begins", """
            open 0 5 = 2
            open 1 3 = 3
            open 2 4 = 3
            close 0 = 2
            standing 0 = 3
            state 1 = 2
            upgrade = 1
            abort 1 = 0
            state 1 = 0
            state 2 = 2
            upgrade = 2
            version = 0
            """);
    }

    private static void openWithoutRoom() {
        SCRIPT.play("promise 2, 60 transactions", READY, FIFTY_NINE_MORE, """
            open 1 2 = 3           // it does not begin yet
            open 2 1 = 1
            close 1 = 3
            close 0 = 1
            close 2 = 1
            open 3 2 = state       // an upgrade would begin
            state 3 = 0
            upgrade = -1
            open 3 1 = 1
            open 2 2 = 3
            state 2 = 3
            """);
    }

    private static void close() {
        SCRIPT.play("promise 3, close", READY, """
            close -1 = bounds
            close 4 = bounds
            close 1 = state
            open 1 2 = 3
            close 1 = 3
            state 1 = 0
            close 1 = state
            close 0 = 1
            open 0 2 = 2
            close 0 = 2
            close 0 = state
            upgrade = -1
            standing 1 = 3
            version = 1
            open 0 1 = 1
            """);
        SCRIPT.play("promise 3, closing one that was blocked first", READY, """
            open 1 3 = 3
            open 2 2 = 3
            close 1 = 3
            state 2 = 3
            close 0 = 1
            state 2 = 2
            """);
    }

    private static void closeAbortsTransactions() {
        SCRIPT.play("promise 3, what closing aborts", READY, """
            open 1 1 = 1
            begin 0 1 1 = 1
            put 1 0 5 50 -1 -1 = true
            begin 1 1 1 = 2
            begin 0 1 0 = 3
            begin 1 1 0 = 4
            standing 2 = 0
            close 0 = 1
            standing 1 = 3
            standing 2 = 1
            standing 3 = 3
            standing 4 = 0
            get 2 0 5 = -1         // it is undone
            commit 2 = 1
            standing 4 = 1
            """);
        SCRIPT.play("promise 3, done transactions stay", READY, """
            begin 0 1 1 = 1
            put 1 0 5 50 -1 -1 = true
            commit 1 = 0
            begin 0 1 1 = 2
            abort 2 = 0
            close 0 = 1
            standing 0 = 2
            standing 1 = 2
            standing 2 = 3
            open 0 1 = 1
            begin 0 1 0 = 3
            get 3 0 5 = 50
            """);
    }

    private static void closeWithoutRoom() {
        SCRIPT.play("promise 3, 60 transactions", READY, FIFTY_NINE_MORE, """
            open 1 1 = 1
            open 2 2 = 3
            close 1 = 1            // tab 0 is open
            close 0 = state
            state 0 = 1
            standing 59 = 1
            state 2 = 3
            close 2 = 3
            close 0 = 1
            standing 59 = 3
            """);
        SCRIPT.play("promise 3, 60 transactions, none that would upgrade", """
            open 0 2 = 2
            open 1 1 = 3
            open 2 2 = 3
            makeStore 0 0 = ok
            commit 0 = 0
            """, FIFTY_NINE_MORE, """
            close 0 = 1
            state 1 = 0
            state 2 = 0
            """);
        SCRIPT.play("promise 3, 60 transactions, the second one would upgrade", """
            open 0 2 = 2
            open 1 1 = 3
            open 2 3 = 3
            makeStore 0 0 = ok
            commit 0 = 0
            """, FIFTY_NINE_MORE, """
            close 0 = state
            state 1 = 3
            close 2 = 3
            close 0 = 1
            state 1 = 0
            """);
        SCRIPT.play("promises 3 and 13, the upgrade is the 60th transaction", READY, "58 x begin 0 1 0 = *", """
            open 1 2 = 3
            open 2 3 = 3
            close 0 = 1
            upgrade = 59
            makeStore 59 1 = ok
            close 1 = state
            abort 59 = state
            standing 59 = 1
            put 59 1 1 1 1 1 = true
            open 3 2 = 3
            close 3 = 3
            close 2 = 3
            close 1 = 2
            upgrade = -1
            open 1 1 = 1
            begin 1 2 0 = bounds   // store 1 is undone
            begin 1 1 0 = state
            """);
        SCRIPT.play("promise 13, the upgrade is the 60th transaction and alone", READY, "58 x begin 0 1 0 = *", """
            open 1 2 = 3
            close 0 = 1
            abort 59 = 0
            state 1 = 0
            upgrade = -1
            """);
    }

    private static void stateVersionAndUpgrade() {
        SCRIPT.play("promises 4 to 6", """
            state -1 = bounds
            state 4 = bounds
            state 2147483647 = bounds
            open 2 7 = 2
            state 2 = 2
            version = 0            // until it is committed
            upgrade = 0
            commit 0 = 0
            state 2 = 1
            version = 7
            upgrade = -1
            open 3 9 = 3
            state 3 = 3
            upgrade = -1
            close 2 = 1
            upgrade = 1
            abort 1 = 0
            version = 7
            upgrade = -1
            """);
    }

    private static void makeStore() {
        SCRIPT.play("promise 7, makeStore", """
            makeStore 0 0 = bounds
            open 0 1 = 2
            makeStore 1 0 = bounds
            makeStore -1 0 = bounds
            makeStore 0 -1 = bounds
            makeStore 0 3 = bounds
            makeStore 0 2 = ok
            makeStore 0 2 = state
            count 0 2 0 3999999 = 0
            cursor 0 2 0 0 = state // it has no index
            cursor 0 2 1 0 = state
            get 0 1 1 = bounds
            makeStore 0 1 = ok
            commit 0 = 0
            makeStore 0 0 = state
            makeStore 0 3 = bounds
            begin 0 4 1 = 1
            makeStore 1 0 = state  // no upgrade
            begin 0 1 1 = bounds
            close 0 = 1
            open 0 2 = 2
            makeStore 0 0 = state  // an upgrade that is over
            makeStore 1 0 = state
            makeStore 2 0 = ok
            """);
    }

    private static void deleteStore() {
        SCRIPT.play("promise 8, deleteStore", """
            deleteStore 0 0 = bounds
            open 0 1 = 2
            deleteStore 0 0 = bounds
            deleteStore 0 3 = bounds
            makeStore 0 0 = ok
            makeStore 0 1 = ok
            deleteStore 1 0 = bounds
            makeIndex 0 0 0 1 = ok
            put 0 0 1 1 5 6 = true
            put 0 0 2 2 6 6 = true
            put 0 1 2 2 6 6 = true
            deleteStore 0 0 = 2
            get 0 0 1 = bounds
            get 0 1 2 = 2
            deleteStore 0 0 = bounds
            makeStore 0 0 = ok
            count 0 0 0 3999999 = 0
            cursor 0 0 0 0 = state // the index is deleted, too
            put 0 0 1 1 5 6 = true
            put 0 0 2 1 5 6 = true // and is not unique any more
            deleteStore 0 0 = 2
            makeStore 0 0 = ok
            deleteStore 0 0 = 0
            commit 0 = 0
            deleteStore 0 0 = bounds
            deleteStore 0 1 = state
            begin 0 2 1 = 1
            deleteStore 1 1 = state
            get 1 1 2 = 2
            """);
    }

    private static void makeIndex() {
        SCRIPT.play("promise 9, makeIndex", """
            makeIndex 0 0 0 0 = bounds
            open 0 1 = 2
            makeIndex 0 0 0 0 = bounds
            makeStore 0 0 = ok
            makeIndex 1 0 0 0 = bounds
            makeIndex 0 1 0 0 = bounds
            makeIndex 0 3 0 0 = bounds
            makeIndex 0 0 -1 0 = bounds
            makeIndex 0 0 2 0 = bounds
            put 0 0 1 1 5 6 = true
            makeIndex 0 0 0 0 = ok
            makeIndex 0 0 0 0 = state
            makeIndex 0 0 0 1 = state
            put 0 0 2 1 5 6 = true // this one is not unique
            cursor 0 0 0 0 = 0
            cursor 0 0 1 0 = state
            step 0 = 1             // rows that were there are entries
            makeIndex 0 0 1 0 = ok
            cursor 0 0 1 0 = 1
            commit 0 = 0
            makeIndex 0 0 1 0 = state
            makeIndex 0 0 2 0 = bounds
            """);
        SCRIPT.play("promise 9, only in an upgrade", READY, """
            makeIndex 0 0 0 0 = state   // it is over
            begin 0 1 1 = 1
            makeIndex 1 0 0 0 = state
            cursor 1 0 0 0 = state
            """);
    }

    private static void makeUniqueIndex() {
        SCRIPT.play("promise 9, a unique index", """
            open 0 1 = 2
            makeStore 0 0 = ok
            put 0 0 1 1 5 -1 = true
            put 0 0 2 1 5 -1 = true
            put 0 0 3 1 7 0 = true
            makeIndex 0 0 0 1 = state
            cursor 0 0 0 0 = state // so it is not there
            makeIndex 0 0 1 1 = ok // none is not a number
            put 0 0 4 1 5 0 = state
            put 0 0 4 1 5 1 = true
            makeIndex 0 0 0 0 = ok
            """);
    }

    private static void upgradeIsUndoneWhole() {
        SCRIPT.play("an aborted upgrade is undone whole", READY, """
            begin 0 1 1 = 1
            put 1 0 1 10 3 4 = true
            put 1 0 2 20 3 5 = true
            commit 1 = 0
            close 0 = 1
            open 0 2 = 2
            makeIndex 2 0 0 0 = ok
            makeIndex 2 0 1 1 = ok
            put 2 0 1 11 -1 -1 = false
            remove 2 0 2 2 = 1
            deleteStore 2 0 = 1
            makeStore 2 0 = ok
            put 2 0 9 9 9 9 = true
            makeStore 2 1 = ok
            abort 2 = 0
            state 0 = 0
            version = 1
            standing 2 = 3
            open 0 1 = 1
            begin 0 2 0 = bounds
            begin 0 1 1 = 3
            get 3 0 1 = 10
            get 3 0 2 = 20
            get 3 0 9 = -1
            count 3 0 0 3999999 = 2
            cursor 3 0 0 0 = state
            cursor 3 0 1 0 = state
            put 3 0 3 30 3 5 = true
            """);
        SCRIPT.play("an undone deletion brings the indexes back", """
            open 0 1 = 2
            makeStore 0 0 = ok
            makeIndex 0 0 0 1 = ok
            makeIndex 0 0 1 0 = ok
            commit 0 = 0
            close 0 = 1
            open 0 2 = 2
            deleteStore 1 0 = 0
            close 0 = 2
            open 0 1 = 1
            begin 0 1 1 = 2
            cursor 2 0 1 0 = 0
            put 2 0 1 1 1 1 = true
            put 2 0 2 1 1 1 = state
            put 2 0 2 1 2 1 = true
            """);
    }
}
