/** The boundary cases that the document names of tabs and upgrades, promises 1 to 9: a run for each sentence. */
public final class TabEdgesTest {
    private static final Script SCRIPT = new Script();

    // The database has version 1 and store 0; tab 0 is open; transaction 0 is committed.
    private static final String READY = """
        open 0 1 = 2
        makeStore 0 0 = ok
        commit 0 = 0
        """;
    private static final String FIFTY_NINE_IN_ALL = READY + "58 x begin 0 1 0 = *\n";
    private static final String SIXTY_IN_ALL = READY + "59 x begin 0 1 0 = *\n";
    // Transaction 0 is the upgrade; store 0 has the rows 1 and 2 with the same numbers, and 3 without any.
    private static final String DOUBLES = """
        open 0 1 = 2
        makeStore 0 0 = ok
        put 0 0 1 10 0 999 = true
        put 0 0 2 20 0 999 = true
        put 0 0 3 30 -1 -1 = true
        """;

    public static void main(String[] args) {
        newObject();
        openRanges();
        openInEachState();
        openInItsTurn();
        openAtOlderVersion();
        openAtSameVersion();
        openAtGreaterVersion();
        openWithSixtyTransactions();
        closeRanges();
        closeInEachState();
        closeAbortsWhatIsPending();
        closeWithSixtyTransactions();
        closeWithSixtyAndReachedVersions();
        blockedTabs();
        reachedVersions();
        upgradeComesAndGoes();
        states();
        versions();
        upgrades();
        makeStoreRanges();
        makeStoreOnlyInTheUpgrade();
        makeStoreThatIsThere();
        deleteStoreRanges();
        deleteStoreOnlyInTheUpgrade();
        deleteStoreEmptyAndFull();
        makeIndexRanges();
        makeIndexOnlyInTheUpgrade();
        makeIndexThatIsThere();
        makeUniqueIndex();
        undoneUpgrade();
        SCRIPT.end();
    }

    private static void newObject() {
        SCRIPT.play("1: an empty database of version 0, and closed tabs", """
            version = 0
            upgrade = -1
            state 0 = 0
            state 1 = 0
            state 2 = 0
            state 3 = 0
            """);
        SCRIPT.play("Terms: at first there are no stores", """
            open 0 1 = 2
            get 0 0 1 = bounds
            get 0 1 1 = bounds
            get 0 2 1 = bounds
            """);
        SCRIPT.play("Terms: at first the version is 0, so the least version is an upgrade", """
            open 0 1 = 2
            version = 0
            """);
        SCRIPT.play("Terms: transactions are numbered from 0", """
            standing 0 = bounds
            open 0 1 = 2
            upgrade = 0
            standing 0 = 1
            standing 1 = bounds
            """);
    }

    private static void openRanges() {
        SCRIPT.play("2: tab is 0 to 3, the least", "open 0 1 = 2\nstate 0 = 2");
        SCRIPT.play("2: tab is 0 to 3, the greatest", "open 3 1 = 2\nstate 3 = 2");
        SCRIPT.play("2: no such tab", """
            open -1 1 = bounds
            open 4 1 = bounds
            open 2147483647 1 = bounds
            open -2147483648 1 = bounds
            """);
        SCRIPT.play("2: version is 1 to 100, the least", "open 0 1 = 2\ncommit 0 = 0\nversion = 1");
        SCRIPT.play("2: version is 1 to 100, the greatest", """
            open 0 100 = 2
            commit 0 = 0
            version = 100
            open 1 100 = 1
            open 2 99 = state
            open 2 101 = argument
            """);
        SCRIPT.play("2: version is out of range", """
            open 0 0 = argument
            open 0 -1 = argument
            open 0 101 = argument
            open 0 2147483647 = argument
            open 0 -2147483648 = argument
            """);
        SCRIPT.play("2: the tab goes first, then the version, then the state", READY, """
            open -1 0 = bounds
            open 4 101 = bounds
            open 4 1 = bounds
            open 0 0 = argument
            open 0 101 = argument
            open 0 1 = state
            """);
    }

    private static void openInEachState() {
        SCRIPT.play("2: the tab is open", READY, """
            open 0 1 = state
            open 0 2 = state
            open 0 100 = state
            """);
        SCRIPT.play("2: the tab is upgrading", """
            open 0 1 = 2
            open 0 1 = state
            open 0 2 = state
            """);
        SCRIPT.play("2: the tab is blocked", READY, """
            open 1 2 = 3
            open 1 1 = state
            open 1 2 = state
            open 1 3 = state
            close 0 = 1
            commit 1 = 0
            version = 2            // not 3
            """);
    }

    private static void openInItsTurn() {
        SCRIPT.play("2: the tab is blocked, and a refused call does not cost its turn", READY, """
            open 1 2 = 3
            open 2 2 = 3
            open 1 2 = state
            open 1 1 = state
            open 1 0 = argument
            close 0 = 1
            state 1 = 2
            state 2 = 3
            """);
    }

    private static void openAtOlderVersion() {
        SCRIPT.play("2: version is less than that of the database", """
            open 0 2 = 2
            commit 0 = 0
            open 1 1 = state
            state 1 = 0
            open 1 2 = 1
            """);
        SCRIPT.play("2: it is not less until the upgrade is committed", """
            open 0 2 = 2
            open 1 1 = 3
            """);
        SCRIPT.play("2: less, while a tab is upgrading", READY, """
            close 0 = 1
            open 0 5 = 2
            commit 1 = 0
            close 0 = 1
            open 0 6 = 2
            open 1 4 = state
            """);
    }

    private static void openAtSameVersion() {
        SCRIPT.play("2: the version of the database, and no tab is upgrading", READY, """
            open 1 1 = 1
            open 2 1 = 1
            open 3 1 = 1
            """);
        SCRIPT.play("2: the version of the database and a tab is upgrading", READY, """
            close 0 = 1
            open 0 2 = 2
            open 1 1 = state
            abort 1 = 0
            open 1 1 = 1
            """);
        SCRIPT.play("2: the version of the database and a tab is blocked alone", READY, """
            open 1 2 = 3
            open 2 1 = 1
            """);
        SCRIPT.play("2: the version of the database, by an upgrade that was committed", """
            open 0 2 = 2
            commit 0 = 0
            open 1 2 = 1
            """);
        SCRIPT.play("2: the version of the database, with 60 transactions", SIXTY_IN_ALL, """
            open 1 1 = 1
            close 1 = 1
            close 0 = 1
            open 3 1 = 1
            """);
    }

    private static void openAtGreaterVersion() {
        SCRIPT.play("2: greater by one, another tab is open", READY, "open 1 2 = 3\nupgrade = -1");
        SCRIPT.play("2: greater by one, another tab is upgrading", READY, """
            close 0 = 1
            open 0 2 = 2
            open 1 2 = 3
            upgrade = 1
            """);
        SCRIPT.play("2: greater by one, all others are closed", READY, """
            close 0 = 1
            open 1 2 = 2
            upgrade = 1
            """);
    }

    private static void openWithSixtyTransactions() {
        SCRIPT.play("2: an upgrade would begin and there are 59 transactions", FIFTY_NINE_IN_ALL, """
            close 0 = 1
            open 1 2 = 2
            upgrade = 59
            standing 59 = 1
            standing 60 = bounds
            """);
        SCRIPT.play("2: an upgrade would begin and there are 60 transactions", SIXTY_IN_ALL, """
            close 0 = 1
            open 1 2 = state
            state 1 = 0
            upgrade = -1
            open 1 101 = argument
            open 4 2 = bounds
            """);
        SCRIPT.play("2: 60 transactions, but a tab is open: no upgrade would begin", SIXTY_IN_ALL, """
            open 1 2 = 3
            open 2 100 = 3
            """);
        SCRIPT.play("2: 60 transactions, but a tab is upgrading: no other upgrade would begin", FIFTY_NINE_IN_ALL, """
            close 0 = 1
            open 0 2 = 2
            open 1 2 = 3
            standing 60 = bounds
            """);
    }

    private static void closeRanges() {
        SCRIPT.play("3: tab is 0 to 3, the least", "open 0 1 = 2\nclose 0 = 2\nstate 0 = 0");
        SCRIPT.play("3: tab is 0 to 3, the greatest", "open 3 1 = 2\nclose 3 = 2\nstate 3 = 0");
        SCRIPT.play("3: no such tab", READY, """
            close -1 = bounds
            close 4 = bounds
            close 2147483647 = bounds
            close -2147483648 = bounds
            """);
    }

    private static void closeInEachState() {
        SCRIPT.play("3: it is closed", READY, """
            close 1 = state
            close 0 = 1
            close 0 = state
            """);
        SCRIPT.play("3: returns its state before, open", READY, "close 0 = 1\nstate 0 = 0");
        SCRIPT.play("3: returns its state before, upgrading", "open 2 1 = 2\nclose 2 = 2\nstate 2 = 0");
        SCRIPT.play("3: returns its state before, blocked", READY, "open 1 2 = 3\nclose 1 = 3\nstate 1 = 0\nstate 0 = 1");
        SCRIPT.play("3: an upgrade is aborted, transaction 0", """
            open 0 1 = 2
            makeStore 0 0 = ok
            close 0 = 2
            standing 0 = 3
            upgrade = -1
            open 0 1 = 2
            makeStore 1 0 = ok
            """);
        SCRIPT.play("3: an upgrade is aborted", READY, """
            close 0 = 1
            open 0 2 = 2
            makeStore 1 1 = ok
            put 1 0 1 1 1 1 = true
            close 0 = 2
            standing 1 = 3
            upgrade = -1
            version = 1
            open 0 1 = 1
            begin 0 2 0 = bounds
            begin 0 1 0 = 2
            count 2 0 0 3999999 = 0
            """);
    }

    private static void closeAbortsWhatIsPending() {
        SCRIPT.play("Terms: its transactions that are waiting or running are aborted", READY, """
            open 1 1 = 1
            begin 0 1 1 = 1
            put 1 0 1 10 -1 -1 = true
            commit 1 = 0
            begin 0 1 1 = 2
            abort 2 = 0
            begin 0 1 1 = 3
            put 3 0 1 11 -1 -1 = false
            begin 0 1 0 = 4
            begin 1 1 1 = 5
            begin 0 1 0 = 6
            begin 1 1 0 = 7
            close 0 = 1
            standing 0 = 2
            standing 1 = 2
            standing 2 = 3
            standing 3 = 3
            standing 4 = 3
            standing 5 = 1         // another tab's
            standing 6 = 3
            standing 7 = 0
            get 5 0 1 = 10
            put 5 0 1 12 -1 -1 = false
            abort 5 = 1
            get 7 0 1 = 10
            """);
        SCRIPT.play("Terms: a tab that opens anew has none of its old transactions", READY, """
            begin 0 1 1 = 1
            close 0 = 1
            open 0 1 = 1
            standing 1 = 3
            commit 1 = state
            begin 0 1 1 = 2
            standing 2 = 1
            """);
        SCRIPT.play("Terms: by falling numbers, and each one is undone", READY, """
            begin 0 1 1 = 1
            put 1 0 1 10 -1 -1 = true
            begin 0 1 1 = 2
            begin 0 1 1 = 3
            close 0 = 1
            open 0 1 = 1
            begin 0 1 0 = 4
            get 4 0 1 = -1
            """);
    }

    private static void closeWithSixtyTransactions() {
        SCRIPT.play("3: an upgrade of another tab would begin and there are 59 transactions", FIFTY_NINE_IN_ALL, """
            open 1 2 = 3
            close 0 = 1
            state 1 = 2
            upgrade = 59
            """);
        SCRIPT.play("3: an upgrade of another tab would begin and there are 60 transactions", SIXTY_IN_ALL, """
            open 1 2 = 3
            close 0 = state
            state 0 = 1
            state 1 = 3
            standing 59 = 1
            close 4 = bounds
            close 2 = state
            """);
        SCRIPT.play("3: 60 transactions, an upgrade is closed and another tab's would begin", FIFTY_NINE_IN_ALL, """
            open 1 2 = 3
            open 2 2 = 3
            close 0 = 1
            upgrade = 59
            close 1 = state
            state 1 = 2
            standing 59 = 1
            close 2 = 3
            close 1 = 2
            """);
        SCRIPT.play("3: 60 transactions, no tab is blocked", SIXTY_IN_ALL, """
            open 1 1 = 1
            close 0 = 1
            standing 59 = 3
            close 1 = 1
            """);
        SCRIPT.play("3: 60 transactions, another tab is open", SIXTY_IN_ALL, """
            open 1 1 = 1
            open 2 2 = 3
            close 0 = 1
            state 2 = 3
            close 1 = state
            """);
        SCRIPT.play("3: 60 transactions, the blocked one itself is closed", SIXTY_IN_ALL, """
            open 3 2 = 3
            close 3 = 3
            close 0 = 1
            """);
    }

    private static void closeWithSixtyAndReachedVersions() {
        String upgradeToTwo = """
            open 0 2 = 2
            makeStore 0 0 = ok
            """;
        String fillUp = "commit 0 = 0\n59 x begin 0 1 0 = *\n";
        SCRIPT.play("3: 60 transactions, the blocked ones have that version or less: no upgrade would begin",
            upgradeToTwo, "open 1 2 = 3\nopen 2 1 = 3\n", fillUp, """
            close 0 = 1
            state 1 = 0
            state 2 = 0
            upgrade = -1
            """);
        SCRIPT.play("3: 60 transactions, the second blocked one has a greater version",
            upgradeToTwo, "open 1 2 = 3\nopen 2 3 = 3\n", fillUp, """
            close 0 = state
            state 1 = 3
            state 2 = 3
            """);
        SCRIPT.play("3: 60 transactions, the first blocked one has a greater version",
            upgradeToTwo, "open 1 3 = 3\nopen 2 2 = 3\n", fillUp, "close 0 = state\nstate 1 = 3");
    }

    private static void blockedTabs() {
        SCRIPT.play("Terms: it begins as soon as all other tabs are closed or blocked", READY, """
            open 1 1 = 1
            open 2 2 = 3
            open 3 3 = 3
            close 1 = 1
            state 2 = 3            // tab 0 is open
            upgrade = -1
            close 0 = 1
            state 2 = 2            // tab 3 is blocked
            state 3 = 3
            """);
        SCRIPT.play("Terms: it does not begin as long as a tab is upgrading", """
            open 0 1 = 2
            open 1 2 = 3
            upgrade = 0
            commit 0 = 0
            state 1 = 3            // tab 0 is open
            close 0 = 1
            state 1 = 2
            """);
        SCRIPT.play("Terms: of several blocked ones the one that was blocked first", READY, """
            open 3 2 = 3
            open 2 3 = 3
            open 1 4 = 3
            close 0 = 1
            state 1 = 3
            state 2 = 3
            state 3 = 2
            close 3 = 2
            state 2 = 2
            close 2 = 2
            state 1 = 2
            """);
        SCRIPT.play("Terms: who was closed and is blocked again is the last one", READY, """
            open 1 2 = 3
            open 2 2 = 3
            close 1 = 3
            open 1 2 = 3
            close 0 = 1
            state 1 = 3
            state 2 = 2
            """);
    }

    private static void reachedVersions() {
        SCRIPT.play("Terms: the version is that of the tab by then: it is closed instead", READY, """
            open 1 2 = 3
            open 2 2 = 3
            close 0 = 1
            commit 1 = 0
            state 2 = 3            // no upgrade begins yet
            close 1 = 1
            state 2 = 0
            upgrade = -1
            standing 2 = bounds
            """);
        SCRIPT.play("Terms: the version is a greater one by then: it is closed instead", READY, """
            open 1 3 = 3
            open 2 2 = 3
            close 0 = 1
            commit 1 = 0
            close 1 = 1
            state 2 = 0
            upgrade = -1
            """);
        SCRIPT.play("Terms: the version is less by one by then: it upgrades", READY, """
            open 1 2 = 3
            open 2 3 = 3
            close 0 = 1
            commit 1 = 0
            close 1 = 1
            state 2 = 2
            upgrade = 2
            """);
        SCRIPT.play("Terms: and it is looked at the next one", READY, """
            open 1 2 = 3
            open 2 2 = 3
            open 3 3 = 3
            close 0 = 1
            open 0 2 = 3
            commit 1 = 0
            close 1 = 1
            state 2 = 0
            state 3 = 2
            state 0 = 3            // behind tab 3
            """);
        SCRIPT.play("Terms: two are closed instead, the third one upgrades", """
            open 0 2 = 2
            open 1 1 = 3
            open 2 2 = 3
            open 3 3 = 3
            commit 0 = 0
            close 0 = 1
            state 1 = 0
            state 2 = 0
            state 3 = 2
            upgrade = 1
            """);
    }

    private static void upgradeComesAndGoes() {
        SCRIPT.play("Terms: the upgrade's scope is everything, and it is running at once", """
            open 0 1 = 2
            standing 0 = 1
            makeStore 0 0 = ok
            makeStore 0 1 = ok
            makeStore 0 2 = ok
            put 0 0 1 1 -1 -1 = true
            put 0 1 1 2 -1 -1 = true
            put 0 2 1 3 -1 -1 = true
            get 0 0 1 = 1
            get 0 1 1 = 2
            get 0 2 1 = 3
            cursor 0 2 -1 0 = 0
            step 0 = 1
            update 0 4 = 3
            """);
        SCRIPT.play("Terms: when it is committed, the version is that of the tab, and the tab is open", """
            open 3 42 = 2
            commit 0 = 0
            version = 42
            state 3 = 1
            upgrade = -1
            """);
        SCRIPT.play("Terms: when it is aborted, the tab is closed", """
            open 3 42 = 2
            abort 0 = 0
            version = 0
            state 3 = 0
            upgrade = -1
            open 3 1 = 2
            """);
    }

    private static void states() {
        SCRIPT.play("4: returns 0 to 3", READY, """
            open 1 2 = 3
            state 0 = 1
            state 1 = 3
            state 2 = 0
            close 0 = 1
            state 1 = 2
            """);
        SCRIPT.play("4: no such tab", """
            state 0 = 0
            state 3 = 0
            state -1 = bounds
            state 4 = bounds
            state 2147483647 = bounds
            state -2147483648 = bounds
            """);
    }

    private static void versions() {
        SCRIPT.play("5: from 0 to the greatest one", """
            version = 0
            open 0 1 = 2
            version = 0
            commit 0 = 0
            version = 1
            close 0 = 1
            version = 1
            open 0 100 = 2
            version = 1
            close 0 = 2
            version = 1
            open 0 100 = 2
            commit 2 = 0
            version = 100
            """);
    }

    private static void upgrades() {
        SCRIPT.play("6: -1 if there is none, else the number, the least", """
            upgrade = -1
            open 0 1 = 2
            upgrade = 0
            commit 0 = 0
            upgrade = -1
            """);
        SCRIPT.play("6: -1 behind an abort and behind a close", """
            open 0 1 = 2
            abort 0 = 0
            upgrade = -1
            open 0 1 = 2
            upgrade = 1
            close 0 = 2
            upgrade = -1
            """);
        SCRIPT.play("6: the number, the greatest", FIFTY_NINE_IN_ALL, """
            close 0 = 1
            upgrade = -1
            open 0 2 = 2
            upgrade = 59
            commit 59 = 0
            upgrade = -1
            """);
    }

    private static void makeStoreRanges() {
        SCRIPT.play("7: store is 0 to 2", """
            open 0 1 = 2
            makeStore 0 0 = ok
            makeStore 0 2 = ok
            makeStore 0 -1 = bounds
            makeStore 0 3 = bounds
            makeStore 0 2147483647 = bounds
            makeStore 0 -2147483648 = bounds
            makeStore 0 1 = ok
            makeStore 0 3 = bounds
            """);
        SCRIPT.play("7: no such transaction", """
            makeStore 0 0 = bounds
            open 0 1 = 2
            makeStore -1 0 = bounds
            makeStore 1 0 = bounds
            makeStore 2147483647 0 = bounds
            makeStore -2147483648 0 = bounds
            makeStore 0 0 = ok
            """);
        SCRIPT.play("7: IndexOutOfBoundsException goes first", READY, """
            makeStore 0 3 = bounds     // the upgrade is over
            makeStore 0 -1 = bounds
            makeStore 1 0 = bounds     // the store is there
            makeStore -1 0 = bounds
            """);
    }

    private static void makeStoreOnlyInTheUpgrade() {
        SCRIPT.play("7: not the upgrade that is running, one that is committed", READY, "makeStore 0 1 = state");
        SCRIPT.play("7: not the upgrade that is running, one that is aborted", """
            open 0 1 = 2
            abort 0 = 0
            makeStore 0 0 = state
            """);
        SCRIPT.play("7: not the upgrade that is running, an earlier one", """
            open 0 1 = 2
            commit 0 = 0
            close 0 = 1
            open 0 2 = 2
            makeStore 0 0 = state
            makeStore 1 0 = ok
            """);
        SCRIPT.play("7: not the upgrade that is running, a transaction of an open tab", READY, """
            begin 0 1 1 = 1
            makeStore 1 1 = state
            """);
    }

    private static void makeStoreThatIsThere() {
        SCRIPT.play("7: the store is there", """
            open 0 1 = 2
            makeStore 0 0 = ok
            makeIndex 0 0 0 1 = ok
            put 0 0 1 10 5 -1 = true
            makeStore 0 0 = state
            get 0 0 1 = 10
            put 0 0 2 20 5 -1 = state
            cursor 0 0 0 0 = 0
            """);
        SCRIPT.play("7: the store was there before the upgrade", READY, """
            close 0 = 1
            open 0 2 = 2
            makeStore 1 0 = state
            deleteStore 1 0 = 0
            makeStore 1 0 = ok
            makeStore 1 0 = state
            """);
        SCRIPT.play("7: without rows and indexes", """
            open 0 1 = 2
            makeStore 0 0 = ok
            makeIndex 0 0 0 0 = ok
            makeIndex 0 0 1 1 = ok
            put 0 0 1 10 5 5 = true
            deleteStore 0 0 = 1
            makeStore 0 0 = ok
            count 0 0 0 3999999 = 0
            cursor 0 0 0 0 = state
            cursor 0 0 1 0 = state
            put 0 0 1 10 5 5 = true
            put 0 0 2 10 5 5 = true    // no unique index
            deleteStore 0 0 = 2
            """);
    }

    private static void deleteStoreRanges() {
        SCRIPT.play("8: no such store", """
            open 0 1 = 2
            deleteStore 0 0 = bounds
            deleteStore 0 -1 = bounds
            deleteStore 0 3 = bounds
            deleteStore 0 2147483647 = bounds
            deleteStore 0 -2147483648 = bounds
            makeStore 0 0 = ok
            makeStore 0 2 = ok
            deleteStore 0 1 = bounds
            deleteStore 0 0 = 0
            deleteStore 0 0 = bounds
            deleteStore 0 2 = 0
            deleteStore 0 2 = bounds
            """);
        SCRIPT.play("8: no such transaction", """
            deleteStore 0 0 = bounds
            open 0 1 = 2
            makeStore 0 0 = ok
            deleteStore -1 0 = bounds
            deleteStore 1 0 = bounds
            deleteStore 2147483647 0 = bounds
            deleteStore -2147483648 0 = bounds
            """);
        SCRIPT.play("8: IndexOutOfBoundsException goes first", READY, """
            deleteStore 0 1 = bounds   // the upgrade is over
            deleteStore 0 3 = bounds
            deleteStore 1 0 = bounds
            deleteStore 0 0 = state
            """);
    }

    private static void deleteStoreOnlyInTheUpgrade() {
        SCRIPT.play("8: not the upgrade that is running, one that is committed", READY, "deleteStore 0 0 = state");
        SCRIPT.play("8: not the upgrade that is running, one that is aborted", READY, """
            close 0 = 1
            open 0 2 = 2
            close 0 = 2
            deleteStore 1 0 = state
            """);
        SCRIPT.play("8: not the upgrade that is running, an earlier one", READY, """
            close 0 = 1
            open 0 2 = 2
            deleteStore 0 0 = state
            deleteStore 1 0 = 0
            """);
        SCRIPT.play("8: not the upgrade that is running, a transaction of an open tab", READY, """
            begin 0 1 1 = 1
            deleteStore 1 0 = state
            """);
    }

    private static void deleteStoreEmptyAndFull() {
        SCRIPT.play("8: returns how many rows it had, none", READY, """
            close 0 = 1
            open 0 2 = 2
            deleteStore 1 0 = 0
            """);
        SCRIPT.play("8: returns how many rows it had, one", DOUBLES, """
            remove 0 0 2 3 = 2
            deleteStore 0 0 = 1
            """);
        SCRIPT.play("8: returns how many rows it had, 40, and they are no more", """
            open 0 1 = 2
            makeStore 0 0 = ok
            makeStore 0 1 = ok
            """, Script.puts(0, 0, 1, 40), """
            put 0 1 1 1 -1 -1 = state
            deleteStore 0 0 = 40
            put 0 1 1 1 -1 -1 = true
            deleteStore 0 1 = 1
            """);
        SCRIPT.play("8: an upgrade that is aborted brings 40 rows back", """
            open 0 1 = 2
            makeStore 0 0 = ok
            """, Script.puts(0, 0, 1, 40), """
            commit 0 = 0
            close 0 = 1
            open 0 2 = 2
            deleteStore 1 0 = 40
            close 0 = 2
            open 0 2 = 2
            deleteStore 2 0 = 40
            """);
    }

    private static void makeIndexRanges() {
        SCRIPT.play("9: field is 0 or 1", DOUBLES, """
            makeIndex 0 0 -1 0 = bounds
            makeIndex 0 0 2 0 = bounds
            makeIndex 0 0 2147483647 0 = bounds
            makeIndex 0 0 -2147483648 0 = bounds
            cursor 0 0 0 0 = state
            cursor 0 0 1 0 = state
            makeIndex 0 0 0 0 = ok
            cursor 0 0 1 0 = state
            makeIndex 0 0 1 0 = ok
            """);
        SCRIPT.play("9: no such store", DOUBLES, """
            makeIndex 0 -1 0 0 = bounds
            makeIndex 0 1 0 0 = bounds
            makeIndex 0 2 0 0 = bounds
            makeIndex 0 3 0 0 = bounds
            makeIndex 0 2147483647 0 0 = bounds
            makeIndex 0 -2147483648 0 0 = bounds
            makeStore 0 2 = ok
            makeIndex 0 2 0 0 = ok
            deleteStore 0 0 = 3
            makeIndex 0 0 0 0 = bounds
            """);
        SCRIPT.play("9: no such transaction", "makeIndex 0 0 0 0 = bounds\n", DOUBLES, """
            makeIndex -1 0 0 0 = bounds
            makeIndex 1 0 0 0 = bounds
            makeIndex 2147483647 0 0 0 = bounds
            makeIndex -2147483648 0 0 0 = bounds
            """);
        SCRIPT.play("9: IndexOutOfBoundsException goes first", READY, """
            makeIndex 0 0 2 0 = bounds     // the upgrade is over
            makeIndex 0 0 -1 1 = bounds
            makeIndex 0 1 0 0 = bounds
            makeIndex 1 0 0 0 = bounds
            makeIndex 0 0 1 0 = state
            """);
    }

    private static void makeIndexOnlyInTheUpgrade() {
        SCRIPT.play("9: not the upgrade that is running, one that is committed", READY, "makeIndex 0 0 0 0 = state");
        SCRIPT.play("9: not the upgrade that is running, one that is aborted", READY, """
            close 0 = 1
            open 0 2 = 2
            abort 1 = 0
            makeIndex 1 0 0 0 = state
            """);
        SCRIPT.play("9: not the upgrade that is running, an earlier one", READY, """
            close 0 = 1
            open 0 2 = 2
            makeIndex 0 0 0 0 = state
            makeIndex 1 0 0 0 = ok
            """);
        SCRIPT.play("9: not the upgrade that is running, a transaction of an open tab", READY, """
            begin 0 1 1 = 1
            makeIndex 1 0 0 0 = state
            cursor 1 0 0 0 = state
            """);
    }

    private static void makeIndexThatIsThere() {
        SCRIPT.play("9: the index is there", """
            open 0 1 = 2
            makeStore 0 0 = ok
            makeIndex 0 0 0 0 = ok
            makeIndex 0 0 0 0 = state
            makeIndex 0 0 0 1 = state
            put 0 0 1 1 5 5 = true
            put 0 0 2 2 5 5 = true     // it is not unique
            """);
        SCRIPT.play("9: the index is there and is unique", """
            open 0 1 = 2
            makeStore 0 0 = ok
            makeIndex 0 0 1 1 = ok
            makeIndex 0 0 1 0 = state
            makeIndex 0 0 1 1 = state
            put 0 0 1 1 5 5 = true
            put 0 0 2 2 5 5 = state    // it is still unique
            """);
        SCRIPT.play("9: the index was there before the upgrade", """
            open 0 1 = 2
            makeStore 0 0 = ok
            makeIndex 0 0 0 1 = ok
            commit 0 = 0
            close 0 = 1
            open 0 2 = 2
            makeIndex 1 0 0 1 = state
            makeIndex 1 0 1 1 = ok
            """);
    }

    private static void makeUniqueIndex() {
        SCRIPT.play("9: it is to be unique and two rows have the same number, 0", DOUBLES, "makeIndex 0 0 0 1 = state");
        SCRIPT.play("9: it is to be unique and two rows have the same number, 999", DOUBLES, "makeIndex 0 0 1 1 = state");
        SCRIPT.play("9: two rows have the same number, but it need not be unique", DOUBLES, "makeIndex 0 0 0 0 = ok");
        SCRIPT.play("9: it was refused, so it can be made", DOUBLES, """
            makeIndex 0 0 0 1 = state
            remove 0 0 1 1 = 1
            makeIndex 0 0 0 1 = ok
            """);
        SCRIPT.play("9: none is not a number", """
            open 0 1 = 2
            makeStore 0 0 = ok
            put 0 0 1 10 -1 5 = true
            put 0 0 2 20 -1 6 = true
            makeIndex 0 0 0 1 = ok
            makeIndex 0 0 1 1 = ok
            put 0 0 3 30 -1 -1 = true
            """);
        SCRIPT.play("9: the same number in the other field does not count", """
            open 0 1 = 2
            makeStore 0 0 = ok
            put 0 0 1 10 5 6 = true
            put 0 0 2 20 6 5 = true
            makeIndex 0 0 0 1 = ok
            makeIndex 0 0 1 1 = ok
            """);
        SCRIPT.play("9: the same number in another store does not count", """
            open 0 1 = 2
            makeStore 0 0 = ok
            makeStore 0 1 = ok
            put 0 0 1 10 5 6 = true
            put 0 1 1 20 5 6 = true
            makeIndex 0 0 0 1 = ok
            put 0 1 2 20 5 6 = true
            """);
        SCRIPT.play("9: a store without rows, and with one", """
            open 0 1 = 2
            makeStore 0 0 = ok
            makeIndex 0 0 0 1 = ok
            put 0 0 1 10 5 6 = true
            makeIndex 0 0 1 1 = ok
            """);
    }

    private static void undoneUpgrade() {
        SCRIPT.play("Terms: all that was done in an upgrade is undone: stores that were made", READY, """
            close 0 = 1
            open 0 2 = 2
            makeStore 1 1 = ok
            makeStore 1 2 = ok
            abort 1 = 0
            open 0 1 = 1
            begin 0 1 0 = 2
            begin 0 2 0 = bounds
            begin 0 4 0 = bounds
            """);
        SCRIPT.play("Terms: all that was done in an upgrade is undone: indexes that were made", READY, """
            close 0 = 1
            open 0 2 = 2
            makeIndex 1 0 0 1 = ok
            makeIndex 1 0 1 0 = ok
            abort 1 = 0
            open 0 1 = 1
            begin 0 1 1 = 2
            cursor 2 0 0 0 = state
            cursor 2 0 1 0 = state
            put 2 0 1 1 5 5 = true
            put 2 0 2 2 5 5 = true
            """);
        SCRIPT.play("Terms: all that was done in an upgrade is undone: a store that was deleted", DOUBLES, """
            makeIndex 0 0 0 0 = ok
            makeIndex 0 0 1 0 = ok
            commit 0 = 0
            close 0 = 1
            open 0 2 = 2
            deleteStore 1 0 = 3
            abort 1 = 0
            open 0 1 = 1
            begin 0 1 0 = 2
            count 2 0 0 3999999 = 3
            get 2 0 2 = 20
            cursor 2 0 0 0 = 0
            cursor 2 0 1 1 = 1
            step 0 = 1
            step 1 = 2
            """);
    }
}
