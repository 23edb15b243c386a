/** The boundary cases that the document names of cursors, promises 18 to 20: a run for each sentence. */
public final class CursorEdgesTest {
    private static final Script SCRIPT = new Script();

    // Stores 0 and 1; store 0 has an index for field 0; transaction 1 writes to store 0; store 2 is not there.
    private static final String EMPTY = """
        open 0 1 = 2
        makeStore 0 0 = ok
        makeStore 0 1 = ok
        makeIndex 0 0 0 0 = ok
        commit 0 = 0
        begin 0 1 1 = 1
        """;
    // The numbers in field 0 are 0, 0, 5, 999, 999 and none; the second keys of the doubles are the lower ones.
    private static final String READY = EMPTY + """
        put 1 0 40 1 0 -1 = true
        put 1 0 30 2 0 -1 = true
        put 1 0 20 3 5 7 = true
        put 1 0 60 4 999 -1 = true
        put 1 0 10 5 999 -1 = true
        put 1 0 50 6 -1 5 = true
        """;
    // An upgrade with store 0, an index for field 0 and the rows 1, 2 and 3; cursor 0 by the index is at row 2.
    private static final String IN_UPGRADE = """
        open 0 1 = 2
        makeStore 0 0 = ok
        makeIndex 0 0 0 0 = ok
        put 0 0 1 10 5 -1 = true
        put 0 0 2 20 6 -1 = true
        put 0 0 3 30 7 -1 = true
        cursor 0 0 0 0 = 0
        step 0 = 1
        step 0 = 2
        """;

    public static void main(String[] args) {
        cursorRanges();
        cursorFields();
        cursorDirections();
        cursorStates();
        cursorIndexes();
        fortyCursors();
        entriesByKeys();
        entriesByIndex();
        withoutDoubles();
        byKeysWithoutDoubles();
        emptyStores();
        aheadOfAll();
        placesForward();
        placesBackward();
        placesWithoutDoubles();
        placesAsTheyWere();
        overForGood();
        stepRanges();
        stepStates();
        storeIsNotThere();
        storeIsMadeAnew();
        updateRanges();
        updateContents();
        updateStates();
        updatePlaces();
        SCRIPT.end();
    }

    private static void cursorRanges() {
        SCRIPT.play("Terms: cursors are numbered from 0", READY, """
            update 0 1 = bounds
            cursor 1 0 -1 0 = 0
            cursor 1 0 -1 0 = 1
            step 2 = bounds
            """);
        SCRIPT.play("18: no such transaction", READY, """
            cursor -1 0 -1 0 = bounds
            cursor 2 0 -1 0 = bounds
            cursor 2147483647 0 -1 0 = bounds
            cursor -2147483648 0 -1 0 = bounds
            """);
        SCRIPT.play("18: no such store", READY, """
            cursor 1 -1 -1 0 = bounds
            cursor 1 2 -1 0 = bounds
            cursor 1 3 -1 0 = bounds
            cursor 1 2147483647 -1 0 = bounds
            cursor 1 -2147483648 -1 0 = bounds
            """);
        SCRIPT.play("18: IndexOutOfBoundsException, then IllegalArgumentException, then IllegalStateException", READY, """
            cursor 2 0 -1 4 = bounds
            cursor 1 2 -1 4 = bounds
            cursor 1 0 2 4 = bounds
            cursor 1 0 -2 -1 = bounds
            cursor 0 0 2 0 = bounds
            cursor 1 1 -2 0 = bounds
            cursor 0 0 -1 4 = argument
            cursor 1 1 -1 -1 = argument
            cursor 1 0 1 4 = argument
            cursor 0 0 -1 0 = state
            """);
    }

    private static void cursorFields() {
        SCRIPT.play("18: field is 0 or 1, or -1", EMPTY, """
            close 0 = 1
            open 0 2 = 2
            makeIndex 2 0 1 0 = ok
            put 2 0 1 10 9 5 = true
            put 2 0 2 20 8 6 = true
            put 2 0 3 30 -1 4 = true
            cursor 2 0 -1 0 = 0
            cursor 2 0 0 0 = 1
            cursor 2 0 1 0 = 2
            step 0 = 1
            step 1 = 2
            step 2 = 3
            """);
        SCRIPT.play("18: field is none of these", READY, """
            cursor 1 0 -2 0 = bounds
            cursor 1 0 2 0 = bounds
            cursor 1 0 2147483647 0 = bounds
            cursor 1 0 -2147483648 0 = bounds
            """);
    }

    private static void cursorDirections() {
        SCRIPT.play("18: direction is 0 to 3", READY, """
            cursor 1 0 0 0 = 0
            cursor 1 0 0 1 = 1
            cursor 1 0 0 2 = 2
            cursor 1 0 0 3 = 3
            step 0 = 30
            step 1 = 60
            step 2 = 30
            step 3 = 10
            """);
        SCRIPT.play("18: direction is out of range", READY, """
            cursor 1 0 0 -1 = argument
            cursor 1 0 0 4 = argument
            cursor 1 0 -1 -1 = argument
            cursor 1 0 -1 4 = argument
            cursor 1 0 0 2147483647 = argument
            cursor 1 0 0 -2147483648 = argument
            cursor 1 0 0 0 = 0
            """);
    }

    private static void cursorStates() {
        SCRIPT.play("18: the transaction is not running", READY, """
            begin 0 1 0 = 2
            cursor 2 0 -1 0 = state        // waiting
            commit 1 = 1
            cursor 1 0 -1 0 = state        // committed
            begin 0 1 0 = 3
            abort 3 = 0
            cursor 3 0 -1 0 = state        // aborted
            cursor 0 0 -1 0 = state        // an upgrade that is over
            cursor 2 0 -1 0 = 0
            """);
        SCRIPT.play("18: it does not have the store in its scope", READY, """
            cursor 1 1 -1 0 = state
            commit 1 = 0
            begin 0 2 0 = 2
            cursor 2 0 -1 0 = state
            cursor 2 0 0 0 = state
            cursor 2 1 -1 0 = 0
            """);
    }

    private static void cursorIndexes() {
        SCRIPT.play("18: the store does not have the index", READY, """
            cursor 1 0 1 0 = state
            cursor 1 0 0 0 = 0
            """);
        SCRIPT.play("18: another store has the index", READY, """
            commit 1 = 0
            begin 0 3 0 = 2
            cursor 2 1 0 0 = state
            cursor 2 1 -1 0 = 0
            cursor 2 0 0 0 = 1
            """);
        SCRIPT.play("18: the store was made anew without the index", IN_UPGRADE, """
            deleteStore 0 0 = 3
            cursor 0 0 0 0 = bounds
            makeStore 0 0 = ok
            cursor 0 0 0 0 = state
            cursor 0 0 -1 0 = 1
            """);
    }

    private static void fortyCursors() {
        SCRIPT.play("18: there are 39 cursors, and 40", READY, """
            39 x cursor 1 0 -1 0 = *
            step 39 = bounds
            cursor 1 0 0 0 = 39
            step 39 = 30
            cursor 1 0 -1 0 = state
            cursor 1 0 0 3 = state
            step 40 = bounds
            """);
        SCRIPT.play("18: there are 40 cursors, of a transaction that is over", READY, """
            40 x cursor 1 0 -1 0 = *
            abort 1 = 0
            begin 0 1 0 = 2
            cursor 2 0 -1 0 = state
            cursor 2 0 1 0 = state
            cursor 2 0 -1 4 = argument
            cursor 2 0 2 0 = bounds
            cursor 2 2 0 0 = bounds
            """);
        SCRIPT.play("18: there are 40 cursors, all of them over", EMPTY, """
            39 x cursor 1 0 -1 0 = *
            cursor 1 0 0 0 = 39
            step 0 = -1
            step 39 = -1
            cursor 1 0 -1 0 = state
            """);
    }

    private static void entriesByKeys() {
        SCRIPT.play("Terms: by its keys, the entries are all rows, ordered by key", READY, """
            cursor 1 0 -1 0 = 0
            step 0 = 10
            step 0 = 20
            step 0 = 30
            step 0 = 40
            step 0 = 50
            step 0 = 60
            step 0 = -1
            """);
        SCRIPT.play("Terms: direction 1 backward", READY, """
            cursor 1 0 -1 1 = 0
            step 0 = 60
            step 0 = 50
            step 0 = 40
            step 0 = 30
            step 0 = 20
            step 0 = 10
            step 0 = -1
            """);
        SCRIPT.play("Terms: the first key and the last key", EMPTY, """
            put 1 0 3999999 1 -1 -1 = true
            put 1 0 0 1 -1 -1 = true
            cursor 1 0 -1 0 = 0
            cursor 1 0 -1 1 = 1
            step 0 = 0
            step 0 = 3999999
            step 0 = -1
            step 1 = 3999999
            step 1 = 0
            step 1 = -1
            """);
    }

    private static void entriesByIndex() {
        SCRIPT.play("Terms: the rows that have a number in this field, ordered by that, and with the same one by key", READY, """
            cursor 1 0 0 0 = 0
            step 0 = 30
            step 0 = 40
            step 0 = 20
            step 0 = 10
            step 0 = 60
            step 0 = -1
            """);
        SCRIPT.play("Terms: backward by an index", READY, """
            cursor 1 0 0 1 = 0
            step 0 = 60
            step 0 = 10
            step 0 = 20
            step 0 = 40
            step 0 = 30
            step 0 = -1
            """);
        SCRIPT.play("Terms: the same number, ordered by the order of keys", EMPTY, """
            put 1 0 2000002 1 5 -1 = true
            put 1 0 2000101 1 5 -1 = true
            put 1 0 3000000 1 5 -1 = true
            put 1 0 999 1 5 -1 = true
            cursor 1 0 0 0 = 0
            step 0 = 999
            step 0 = 2000101
            step 0 = 2000002
            step 0 = 3000000
            step 0 = -1
            cursor 1 0 0 3 = 1
            step 1 = 999
            step 1 = -1
            """);
        SCRIPT.play("Terms: the number goes ahead of the key", EMPTY, """
            put 1 0 3999999 1 0 -1 = true
            put 1 0 0 1 1 -1 = true
            put 1 0 3999998 1 998 -1 = true
            put 1 0 1 1 999 -1 = true
            cursor 1 0 0 0 = 0
            step 0 = 3999999
            step 0 = 0
            step 0 = 3999998
            step 0 = 1
            step 0 = -1
            cursor 1 0 0 2 = 1
            step 1 = 3999999
            step 1 = 0
            step 1 = 3999998
            step 1 = 1
            step 1 = -1
            cursor 1 0 0 3 = 2
            step 2 = 1
            step 2 = 3999998
            step 2 = 0
            step 2 = 3999999
            step 2 = -1
            """);
    }

    private static void withoutDoubles() {
        SCRIPT.play("Terms: forward, of the same number only the one with the lowest key", READY, """
            cursor 1 0 0 2 = 0
            step 0 = 30
            step 0 = 20
            step 0 = 10
            step 0 = -1
            """);
        SCRIPT.play("Terms: backward, of the same number only the one with the lowest key", READY, """
            cursor 1 0 0 3 = 0
            step 0 = 10
            step 0 = 20
            step 0 = 30
            step 0 = -1
            """);
        SCRIPT.play("Terms: all of them have the same number", EMPTY, """
            put 1 0 9 1 0 -1 = true
            put 1 0 8 1 0 -1 = true
            put 1 0 7 1 0 -1 = true
            cursor 1 0 0 2 = 0
            cursor 1 0 0 3 = 1
            step 0 = 7
            step 0 = -1
            step 1 = 7
            step 1 = -1
            """);
    }

    private static void byKeysWithoutDoubles() {
        SCRIPT.play("Terms: by keys 2 is like 0", READY, """
            cursor 1 0 -1 2 = 0
            step 0 = 10
            step 0 = 20
            step 0 = 30
            step 0 = 40
            step 0 = 50
            step 0 = 60
            step 0 = -1
            """);
        SCRIPT.play("Terms: by keys 3 is like 1", READY, """
            cursor 1 0 -1 3 = 0
            step 0 = 60
            step 0 = 50
            step 0 = 40
            step 0 = 30
            step 0 = 20
            step 0 = 10
            step 0 = -1
            """);
    }

    private static void emptyStores() {
        SCRIPT.play("19: there are no rows", EMPTY, """
            cursor 1 0 -1 0 = 0
            cursor 1 0 -1 1 = 1
            cursor 1 0 0 2 = 2
            cursor 1 0 0 3 = 3
            step 0 = -1
            step 1 = -1
            step 2 = -1
            step 3 = -1
            """);
        SCRIPT.play("19: there are rows, but none has a number", EMPTY, """
            put 1 0 1 10 -1 5 = true
            cursor 1 0 0 0 = 0
            cursor 1 0 0 1 = 1
            cursor 1 0 0 2 = 2
            cursor 1 0 0 3 = 3
            step 0 = -1
            step 1 = -1
            step 2 = -1
            step 3 = -1
            """);
        SCRIPT.play("19: there is one row", EMPTY, """
            put 1 0 0 10 0 -1 = true
            cursor 1 0 -1 1 = 0
            cursor 1 0 0 0 = 1
            cursor 1 0 0 3 = 2
            step 0 = 0
            step 0 = -1
            step 1 = 0
            step 1 = -1
            step 2 = 0
            step 2 = -1
            """);
        SCRIPT.play("19: 40 rows", EMPTY, Script.puts(1, 0, 1, 40), """
            cursor 1 0 -1 1 = 0
            39 x step 0 = *
            step 0 = 1
            step 0 = -1
            """);
    }

    private static void aheadOfAll() {
        SCRIPT.play("Terms: a cursor is ahead of all entries at first", READY, """
            cursor 1 0 0 0 = 0
            cursor 1 0 0 1 = 1
            put 1 0 0 1 0 -1 = true
            put 1 0 3999999 1 999 -1 = true
            step 0 = 0
            step 1 = 3999999
            """);
        SCRIPT.play("Terms: and is so as long as it was not stepped", EMPTY, """
            cursor 1 0 -1 0 = 0
            put 1 0 5 1 -1 -1 = true
            remove 1 0 5 5 = 1
            put 1 0 4 1 -1 -1 = true
            step 0 = 4
            """);
    }

    private static void placesForward() {
        SCRIPT.play("Terms: whether the row of its place is there any more or not, forward", READY, """
            cursor 1 0 -1 0 = 0
            step 0 = 10
            step 0 = 20
            remove 1 0 20 20 = 1
            step 0 = 30
            """);
        SCRIPT.play("Terms: behind its place, forward by keys", READY, """
            cursor 1 0 -1 0 = 0
            step 0 = 10
            put 1 0 9 1 -1 -1 = true
            put 1 0 11 1 -1 -1 = true
            step 0 = 11
            step 0 = 20
            """);
        SCRIPT.play("Terms: behind its place, forward with the same number", READY, """
            cursor 1 0 0 0 = 0
            step 0 = 30
            put 1 0 29 1 0 -1 = true
            put 1 0 31 1 0 -1 = true
            step 0 = 31
            step 0 = 40
            """);
        SCRIPT.play("Terms: a row that is put at its place anew is not behind it", READY, """
            cursor 1 0 0 0 = 0
            step 0 = 30
            remove 1 0 30 30 = 1
            put 1 0 30 9 0 -1 = true
            step 0 = 40
            """);
    }

    private static void placesBackward() {
        SCRIPT.play("Terms: whether the row of its place is there any more or not, backward", READY, """
            cursor 1 0 -1 1 = 0
            step 0 = 60
            step 0 = 50
            remove 1 0 50 50 = 1
            step 0 = 40
            """);
        SCRIPT.play("Terms: behind its place, backward by keys", READY, """
            cursor 1 0 -1 1 = 0
            step 0 = 60
            put 1 0 61 1 -1 -1 = true
            put 1 0 59 1 -1 -1 = true
            step 0 = 59
            step 0 = 50
            """);
        SCRIPT.play("Terms: behind its place, backward with the same number", READY, """
            cursor 1 0 0 1 = 0
            step 0 = 60
            put 1 0 61 1 999 -1 = true
            put 1 0 59 1 999 -1 = true
            step 0 = 59
            step 0 = 10
            step 0 = 20
            """);
        SCRIPT.play("Terms: a row that is put at its place anew is not behind it, backward", READY, """
            cursor 1 0 0 1 = 0
            step 0 = 60
            remove 1 0 60 60 = 1
            put 1 0 60 9 999 -1 = true
            step 0 = 10
            """);
    }

    private static void placesWithoutDoubles() {
        SCRIPT.play("Terms: to the next one with another number than that of its place, forward", READY, """
            cursor 1 0 0 2 = 0
            step 0 = 30
            remove 1 0 30 30 = 1       // 40 has the same number
            put 1 0 29 1 0 -1 = true
            step 0 = 20
            put 1 0 19 1 5 -1 = true
            put 1 0 21 1 5 -1 = true
            put 1 0 99 1 6 -1 = true
            step 0 = 99
            step 0 = 10
            step 0 = -1
            """);
        SCRIPT.play("Terms: to the next one with another number than that of its place, backward", READY, """
            cursor 1 0 0 3 = 0
            step 0 = 10
            put 1 0 9 1 999 -1 = true      // a lower key with the same number
            put 1 0 8 1 998 -1 = true
            step 0 = 8
            remove 1 0 8 8 = 1
            put 1 0 1 1 5 -1 = true
            step 0 = 1                     // the lowest key by then
            step 0 = 30
            remove 1 0 30 30 = 1
            step 0 = -1                    // 40 has the same number
            """);
    }

    private static void placesAsTheyWere() {
        SCRIPT.play("Terms: the number as it was when it was stepped to, a greater one since", READY, """
            cursor 1 0 0 0 = 0
            step 0 = 30
            put 1 0 30 2 5 -1 = false
            step 0 = 40
            step 0 = 20
            step 0 = 30                // it is stepped to again
            step 0 = 10
            """);
        SCRIPT.play("Terms: the number as it was when it was stepped to, a less one since", READY, """
            cursor 1 0 0 1 = 0
            step 0 = 60
            put 1 0 60 4 5 -1 = false
            step 0 = 10
            step 0 = 60
            step 0 = 20
            """);
        SCRIPT.play("Terms: the number as it was when it was stepped to, none since", READY, """
            cursor 1 0 0 0 = 0
            step 0 = 30
            step 0 = 40
            step 0 = 20
            put 1 0 20 3 -1 -1 = false
            step 0 = 10
            """);
        SCRIPT.play("Terms: the number as it was when it was stepped to, without doubles", READY, """
            cursor 1 0 0 2 = 0
            step 0 = 30
            put 1 0 30 2 1 -1 = false
            step 0 = 30                // 1 is another number than 0
            put 1 0 40 2 1 -1 = false
            step 0 = 20
            """);
    }

    private static void overForGood() {
        SCRIPT.play("19: -1 if the cursor is over by that, and then it is over", READY, """
            cursor 1 0 -1 0 = 0
            6 x step 0 = *
            step 0 = -1
            step 0 = state
            step 0 = state
            """);
        SCRIPT.play("19: it is over for good, also if there are entries behind its place", READY, """
            cursor 1 0 -1 0 = 0
            cursor 1 0 0 1 = 1
            6 x step 0 = *
            5 x step 1 = *
            step 0 = -1
            step 1 = -1
            put 1 0 999 1 0 -1 = true
            put 1 0 1 1 0 -1 = true
            step 0 = state
            step 1 = state
            """);
        SCRIPT.play("19: it is over, an empty store", EMPTY, """
            cursor 1 0 -1 0 = 0
            step 0 = -1
            put 1 0 1 1 0 -1 = true
            step 0 = state
            """);
        SCRIPT.play("19: it is not over before a step tells so", READY, """
            cursor 1 0 -1 0 = 0
            6 x step 0 = *
            put 1 0 61 1 -1 -1 = true
            step 0 = 61
            step 0 = -1
            """);
    }

    private static void stepRanges() {
        SCRIPT.play("19: no such cursor", "step 0 = bounds\nstep -1 = bounds\n", READY, """
            cursor 1 0 -1 0 = 0
            step -1 = bounds
            step 1 = bounds
            step 2147483647 = bounds
            step -2147483648 = bounds
            step 0 = 10
            """);
        SCRIPT.play("19: returns the key of the row, the least and the greatest", EMPTY, """
            put 1 0 0 1 -1 -1 = true
            put 1 0 3999999 1 -1 -1 = true
            cursor 1 0 -1 0 = 0
            step 0 = 0
            step 0 = 3999999
            """);
    }

    private static void stepStates() {
        SCRIPT.play("19: its transaction is not running, but committed", READY, """
            cursor 1 0 -1 0 = 0
            commit 1 = 0
            step 0 = state
            begin 0 1 1 = 2
            step 0 = state
            """);
        SCRIPT.play("19: its transaction is not running, but aborted", READY, "cursor 1 0 -1 0 = 0\nabort 1 = 0\nstep 0 = state");
        SCRIPT.play("19: its transaction is not running, its tab is closed", READY, "cursor 1 0 -1 0 = 0\nclose 0 = 1\nstep 0 = state");
        SCRIPT.play("19: its transaction need not write", READY, """
            commit 1 = 0
            begin 0 1 0 = 2
            cursor 2 0 0 3 = 0
            step 0 = 10
            """);
    }

    private static void storeIsNotThere() {
        SCRIPT.play("19: its store is not there", IN_UPGRADE, """
            deleteStore 0 0 = 3
            step 0 = state
            update 0 1 = state
            """);
        SCRIPT.play("19: its store is not there, and the cursor is ahead of all entries", """
            open 0 1 = 2
            makeStore 0 0 = ok
            cursor 0 0 -1 0 = 0
            deleteStore 0 0 = 0
            step 0 = state
            makeStore 0 0 = ok
            put 0 0 1 1 1 1 = true
            step 0 = 1
            """);
        SCRIPT.play("19: its store is not there, and the cursor is over", IN_UPGRADE, """
            step 0 = 3
            step 0 = -1
            deleteStore 0 0 = 3
            step 0 = state
            makeStore 0 0 = ok
            put 0 0 9 1 9 1 = true
            step 0 = state
            """);
        SCRIPT.play("19: its transaction is not running and its store is back", IN_UPGRADE, """
            commit 0 = 0
            close 0 = 1
            open 0 2 = 2
            deleteStore 1 0 = 3
            step 0 = state
            abort 1 = 0
            step 0 = state
            update 0 1 = state
            """);
    }

    private static void storeIsMadeAnew() {
        SCRIPT.play("Terms: entries by an index are told by the field, also if the store was made anew without it", IN_UPGRADE, """
            deleteStore 0 0 = 3
            makeStore 0 0 = ok
            put 0 0 9 1 5 -1 = true    // not behind its place
            put 0 0 8 1 7 -1 = true
            put 0 0 7 1 -1 5 = true    // no entry
            put 0 0 5 1 6 -1 = true    // the number of its place, and a higher key
            step 0 = 5
            step 0 = 8
            step 0 = -1
            """);
        SCRIPT.play("Terms: made anew with this index", IN_UPGRADE, """
            deleteStore 0 0 = 3
            makeStore 0 0 = ok
            makeIndex 0 0 0 1 = ok
            put 0 0 1 1 999 -1 = true
            step 0 = 1
            """);
        SCRIPT.play("19: made anew without rows", IN_UPGRADE, """
            deleteStore 0 0 = 3
            makeStore 0 0 = ok
            step 0 = -1
            """);
    }

    private static void updateRanges() {
        SCRIPT.play("20: no such cursor", "update 0 1 = bounds\nupdate -1 1 = bounds\n", READY, """
            cursor 1 0 -1 0 = 0
            step 0 = 10
            update -1 1 = bounds
            update 1 1 = bounds
            update 2147483647 1 = bounds
            update -2147483648 1 = bounds
            update 0 1 = 5
            """);
        SCRIPT.play("20: IndexOutOfBoundsException, then IllegalArgumentException, then IllegalStateException", READY, """
            update 0 10000 = bounds
            cursor 1 0 -1 0 = 0
            update 1 -1 = bounds
            update -1 10000 = bounds
            update 0 -1 = argument         // ahead of all entries
            update 0 10000 = argument
            update 0 5 = state
            commit 1 = 0
            update 0 10000 = argument      // committed
            update 0 5 = state
            """);
    }

    private static void updateContents() {
        SCRIPT.play("20: content is 0 to 9999, and returns the content before", READY, """
            cursor 1 0 -1 0 = 0
            step 0 = 10
            update 0 0 = 5
            update 0 9999 = 0
            update 0 1 = 9999
            get 1 0 10 = 1
            """);
        SCRIPT.play("20: content is out of range", READY, """
            cursor 1 0 -1 0 = 0
            step 0 = 10
            update 0 -1 = argument
            update 0 10000 = argument
            update 0 2147483647 = argument
            update 0 -2147483648 = argument
            get 1 0 10 = 5
            """);
        SCRIPT.play("20: another content, and the numbers stay", READY, """
            cursor 1 0 -1 0 = 0
            step 0 = 10
            step 0 = 20
            update 0 77 = 3
            cursor 1 0 0 2 = 1
            step 1 = 30
            step 1 = 20
            step 1 = 10
            count 1 0 0 999 = 6
            """);
        SCRIPT.play("20: there are 40 rows, and it is not one more", EMPTY, Script.puts(1, 0, 1, 40), """
            cursor 1 0 -1 0 = 0
            step 0 = 1
            update 0 77 = 5
            count 1 0 0 999 = 40
            """);
    }

    private static void updateStates() {
        SCRIPT.play("20: its transaction is not running, but committed", READY, """
            cursor 1 0 -1 0 = 0
            step 0 = 10
            commit 1 = 0
            update 0 1 = state
            begin 0 1 1 = 2
            update 0 1 = state
            get 2 0 10 = 5
            """);
        SCRIPT.play("20: its transaction is not running, but aborted", READY, """
            commit 1 = 0
            begin 0 1 1 = 2
            cursor 2 0 -1 0 = 0
            step 0 = 10
            abort 2 = 0
            update 0 1 = state
            """);
        SCRIPT.play("20: its transaction does not write", READY, """
            commit 1 = 0
            begin 0 1 0 = 2
            cursor 2 0 -1 0 = 0
            step 0 = 10
            update 0 1 = state
            get 2 0 10 = 5
            """);
        SCRIPT.play("20: it is ahead of all entries", READY, """
            put 1 0 0 9 0 0 = true
            cursor 1 0 -1 0 = 0
            update 0 1 = state
            step 0 = 0
            update 0 1 = 9
            """);
        SCRIPT.play("20: it is over", READY, """
            cursor 1 0 0 0 = 0
            5 x step 0 = *
            update 0 1 = 4
            step 0 = -1
            update 0 2 = state
            get 1 0 60 = 1
            """);
    }

    private static void updatePlaces() {
        SCRIPT.play("20: a row with the key of its place is not there any more", READY, """
            cursor 1 0 0 0 = 0
            step 0 = 30
            remove 1 0 30 30 = 1
            update 0 1 = state
            get 1 0 30 = -1
            """);
        SCRIPT.play("20: a row with the key of its place is there again", READY, """
            cursor 1 0 0 0 = 0
            step 0 = 30
            remove 1 0 30 30 = 1
            put 1 0 30 99 -1 8 = true
            update 0 1 = 99
            get 1 0 30 = 1
            """);
        SCRIPT.play("20: its numbers are others by now, and they stay", READY, """
            cursor 1 0 0 0 = 0
            step 0 = 30
            put 1 0 30 99 999 8 = false
            update 0 1 = 99
            cursor 1 0 0 1 = 1
            step 1 = 60
            step 1 = 30
            """);
        SCRIPT.play("20: a row with the key of its place is not there, the store is deleted and made anew", IN_UPGRADE, """
            deleteStore 0 0 = 3
            update 0 1 = state
            makeStore 0 0 = ok
            update 0 1 = state
            put 0 0 2 99 -1 -1 = true
            update 0 1 = 99
            """);
    }
}
