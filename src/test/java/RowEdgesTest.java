/** The boundary cases that the document names of keys and rows, promises 14 to 17: a run for each sentence. */
public final class RowEdgesTest {
    private static final Script SCRIPT = new Script();

    // Stores 0 and 1; store 0 has a unique index for field 0; transaction 1 writes to store 0; store 2 is not there.
    private static final String READY = """
        open 0 1 = 2
        makeStore 0 0 = ok
        makeStore 0 1 = ok
        makeIndex 0 0 0 1 = ok
        commit 0 = 0
        begin 0 1 1 = 1
        """;
    // As above, and transaction 2 writes to store 1.
    private static final String TWO_WRITERS = READY + "begin 0 2 1 = 2\n";
    // Each call with a key, and a key at either side of a range; KEY stands for it.
    private static final String TAKEN = """
        get 1 0 KEY = -1
        count 1 0 KEY KEY = 0
        remove 1 0 KEY KEY = 0
        put 1 0 KEY 77 -1 -1 = true
        get 1 0 KEY = 77
        count 1 0 KEY KEY = 1
        put 1 0 KEY 78 -1 -1 = false
        cursor 1 0 -1 0 = 0
        step 0 = KEY
        step 0 = -1
        remove 1 0 KEY KEY = 1
        get 1 0 KEY = -1
        """;
    private static final String REFUSED = """
        put 1 0 KEY 77 -1 -1 = argument
        remove 1 0 KEY 3999999 = argument
        remove 1 0 0 KEY = argument
        remove 1 0 KEY KEY = argument
        get 1 0 KEY = argument
        count 1 0 KEY 3999999 = argument
        count 1 0 0 KEY = argument
        count 1 0 KEY KEY = argument
        """;

    public static void main(String[] args) {
        numbersAndDates();
        texts();
        pairs();
        kindsThatAreNone();
        order();
        putRanges();
        putContents();
        putNumbers();
        putStates();
        putScopes();
        putUnique();
        putUniqueUndone();
        fortyRows();
        fortyRowsOfThreeStores();
        moreThanFortyRows();
        moreRowsByAClosedTab();
        removeRanges();
        removeEmptyAndFull();
        removeStates();
        getRanges();
        getStates();
        countRanges();
        countEmptyAndFull();
        countStates();
        fiveHundredTwelveCalls();
        SCRIPT.end();
    }

    private static void taken(String title, int... keys) {
        for (int key : keys) {
            SCRIPT.play("Terms: " + title + ", taken", READY, TAKEN.replace("KEY", String.valueOf(key)));
        }
    }

    private static void refused(String title, int... keys) {
        for (int key : keys) {
            SCRIPT.play("Terms: " + title + ", refused", READY, "put 1 0 5 50 -1 -1 = true\n",
                REFUSED.replace("KEY", String.valueOf(key)));
        }
    }

    private static void numbersAndDates() {
        taken("kind 0, a number: the value is 0 to 999", 0, 1, 998, 999);
        refused("kind 0, a number: the value is 0 to 999", -1, 1000, 1001, 10000, 999999);
        taken("kind 1, a date: the value is 0 to 999", 1000000, 1000001, 1000998, 1000999);
        refused("kind 1, a date: the value is 0 to 999", 1001000, 1001001, 1010000, 1999999);
    }

    private static void texts() {
        taken("kind 2, a text of one letter from 01 to 26", 2000001, 2000002, 2000025, 2000026);
        refused("kind 2, a text of one letter from 01 to 26", 2000000, 2000027, 2000099);
        taken("kind 2, a text of two letters, the last one 01 to 26", 2000101, 2000126, 2002601, 2002626);
        refused("kind 2, a text of two letters, the last one 01 to 26", 2000100, 2000127, 2000199, 2002600, 2002627);
        taken("kind 2, a text of two letters, the first one 01 to 26", 2000101, 2000201, 2002501, 2002601);
        refused("kind 2, a text of two letters, the first one 01 to 26", 2002701, 2002726, 2009901, 2009926);
        taken("kind 2, a text of three letters, the last one 01 to 26", 2010101, 2010126, 2262601, 2262626);
        refused("kind 2, a text of three letters, the last one 01 to 26", 2010100, 2010127, 2010199, 2262600, 2262627);
        taken("kind 2, a text of three letters, the middle one 01 to 26", 2010101, 2012601, 2260126, 2262626);
        refused("kind 2, a text of three letters, the middle one 01 to 26", 2010001, 2010026, 2012701, 2019901, 2260001, 2262701);
        taken("kind 2, a text of three letters, the first one 01 to 26", 2010101, 2020101, 2252626, 2262626);
        refused("kind 2, a text of three letters, the first one 01 to 26", 2270101, 2272626, 2990101, 2992626);
        refused("kind 2, a text of one to three letters, no more", 2999999, 2010000, 2260000);
    }

    private static void pairs() {
        taken("kind 3, a pair of numbers, each 0 to 999", 3000000, 3000001, 3000999, 3001000, 3999000, 3999998, 3999999);
    }

    private static void kindsThatAreNone() {
        refused("there are kinds 0 to 3", 4000000, 4000001, 4000999, 5000000, 2147000001, 2147483647);
        refused("there are kinds 0 to 3", -2, -999, -1000, -999999, -1000000, -1000001, -2147483648, -2147483647);
    }

    private static void order() {
        comesAhead("by kind, a number and a date", 999, 1000000);
        comesAhead("by kind, a date and a text", 1000999, 2000001);
        comesAhead("by kind, a text and a pair", 2262626, 3000000);
        comesAhead("numbers by their values", 0, 1);
        comesAhead("numbers by their values", 998, 999);
        comesAhead("dates by their values", 1000000, 1000001);
        comesAhead("dates by their values", 1000998, 1000999);
        comesAhead("the beginning of another one comes first, a and aa", 2000001, 2000101);
        comesAhead("the beginning of another one comes first, aa and aaa", 2000101, 2010101);
        comesAhead("the beginning of another one comes first, z and za", 2000026, 2002601);
        comesAhead("the beginning of another one comes first, zz and zza", 2002626, 2262601);
        comesAhead("the beginning of another one comes first, z and zzz", 2000026, 2262626);
        comesAhead("letter by letter, the last one: aaz and ab", 2010126, 2000102);
        comesAhead("letter by letter, azz and b", 2012626, 2000002);
        comesAhead("letter by letter, az and b", 2000126, 2000002);
        comesAhead("letter by letter, yzz and z", 2252626, 2000026);
        comesAhead("letter by letter, yz and z", 2002526, 2000026);
        comesAhead("letter by letter, a and b", 2000001, 2000002);
        comesAhead("letter by letter, zzy and zzz", 2262625, 2262626);
        comesAhead("pairs by the first number", 3000999, 3001000);
        comesAhead("pairs by the first number", 3998999, 3999000);
        comesAhead("pairs by the first number, then by the second one", 3000000, 3000001);
        comesAhead("pairs by the first number, then by the second one", 3999998, 3999999);
    }

    private static void comesAhead(String title, int ahead, int behind) {
        String run = """
            put 1 0 BEHIND 2 -1 -1 = true
            put 1 0 AHEAD 1 -1 -1 = true
            count 1 0 AHEAD BEHIND = 2
            count 1 0 BEHIND AHEAD = 0
            cursor 1 0 -1 0 = 0
            step 0 = AHEAD
            step 0 = BEHIND
            step 0 = -1
            cursor 1 0 -1 1 = 1
            step 1 = BEHIND
            step 1 = AHEAD
            step 1 = -1
            remove 1 0 BEHIND AHEAD = 0
            count 1 0 0 AHEAD = 1
            count 1 0 BEHIND 3999999 = 1
            remove 1 0 AHEAD BEHIND = 2
            """;
        run = run.replace("AHEAD", String.valueOf(ahead)).replace("BEHIND", String.valueOf(behind));
        SCRIPT.play("Terms: " + title, READY, run);
    }

    private static void putRanges() {
        SCRIPT.play("14: no such transaction", READY, """
            put -1 0 1 1 1 1 = bounds
            put 2 0 1 1 1 1 = bounds
            put 2147483647 0 1 1 1 1 = bounds
            put -2147483648 0 1 1 1 1 = bounds
            """);
        SCRIPT.play("14: no such store", READY, """
            put 1 -1 1 1 1 1 = bounds
            put 1 2 1 1 1 1 = bounds
            put 1 3 1 1 1 1 = bounds
            put 1 2147483647 1 1 1 1 = bounds
            put 1 -2147483648 1 1 1 1 = bounds
            """);
        SCRIPT.play("14: IndexOutOfBoundsException, then IllegalArgumentException, then IllegalStateException", READY, """
            put 2 0 1000 10000 1000 1000 = bounds
            put 1 2 1000 -1 -2 -2 = bounds
            put 0 2 1 1 1 1 = bounds
            put 0 0 1000 1 1 1 = argument
            put 0 0 1 10000 1 1 = argument
            put 0 0 1 1 1000 1 = argument
            put 0 0 1 1 1 -2 = argument
            put 1 1 1000 1 1 1 = argument
            put 0 0 1 1 1 1 = state
            """);
    }

    private static void putContents() {
        SCRIPT.play("14: content is 0 to 9999, the least and the greatest", READY, """
            put 1 0 1 0 -1 -1 = true
            put 1 0 2 9999 -1 -1 = true
            get 1 0 1 = 0
            get 1 0 2 = 9999
            """);
        SCRIPT.play("14: content is out of range", READY, """
            put 1 0 1 -1 -1 -1 = argument
            put 1 0 1 10000 -1 -1 = argument
            put 1 0 1 2147483647 -1 -1 = argument
            put 1 0 1 -2147483648 -1 -1 = argument
            get 1 0 1 = -1
            """);
        SCRIPT.play("14: content is out of range, and the row is there", READY, """
            put 1 0 1 5 7 8 = true
            put 1 0 1 -1 9 9 = argument
            put 1 0 1 10000 9 9 = argument
            get 1 0 1 = 5
            """);
    }

    private static void putNumbers() {
        SCRIPT.play("14: first is 0 to 999, or -1", READY, """
            put 1 0 1 1 0 -1 = true
            put 1 0 2 1 999 -1 = true
            put 1 0 3 1 -1 -1 = true
            put 1 0 4 1 -2 -1 = argument
            put 1 0 4 1 1000 -1 = argument
            put 1 0 4 1 2147483647 -1 = argument
            put 1 0 4 1 -2147483648 -1 = argument
            count 1 0 0 999 = 3
            """);
        SCRIPT.play("14: second is 0 to 999, or -1", READY, """
            put 1 0 1 1 -1 0 = true
            put 1 0 2 1 -1 999 = true
            put 1 0 3 1 -1 -1 = true
            put 1 0 4 1 -1 -2 = argument
            put 1 0 4 1 -1 1000 = argument
            put 1 0 4 1 -1 2147483647 = argument
            put 1 0 4 1 -1 -2147483648 = argument
            count 1 0 0 999 = 3
            """);
    }

    private static void putStates() {
        SCRIPT.play("14: the transaction is not running, but waiting", READY, "begin 0 1 1 = 2\nput 2 0 1 1 1 1 = state");
        SCRIPT.play("14: the transaction is not running, but committed", READY, "commit 1 = 0\nput 1 0 1 1 1 1 = state");
        SCRIPT.play("14: the transaction is not running, but aborted", READY, "abort 1 = 0\nput 1 0 1 1 1 1 = state");
        SCRIPT.play("14: the transaction is not running, an upgrade that is over", READY, "put 0 0 1 1 1 1 = state");
        SCRIPT.play("14: it does not write", READY, """
            put 1 0 1 10 -1 -1 = true
            commit 1 = 0
            begin 0 1 0 = 2
            put 2 0 1 1 1 1 = state
            put 2 0 2 1 1 1 = state
            get 2 0 1 = 10
            """);
    }

    private static void putScopes() {
        SCRIPT.play("14: it does not have the store in its scope", READY, """
            put 1 1 1 1 1 1 = state
            commit 1 = 0
            begin 0 2 1 = 2
            put 2 0 1 1 1 1 = state
            put 2 1 1 1 1 1 = true
            """);
        SCRIPT.play("14: it has all the stores in its scope", READY, """
            commit 1 = 0
            begin 0 3 1 = 2
            put 2 0 1 1 1 1 = true
            put 2 1 1 1 1 1 = true
            """);
    }

    private static void putUnique() {
        SCRIPT.play("14: a unique index has this number for another row, 0", READY, """
            put 1 0 1 10 0 -1 = true
            put 1 0 2 20 0 -1 = state
            put 1 0 2 20 1 -1 = true
            put 1 0 2 21 0 -1 = state
            get 1 0 2 = 20
            """);
        SCRIPT.play("14: a unique index has this number for another row, 999", READY, """
            put 1 0 1 10 999 -1 = true
            put 1 0 2 20 999 -1 = state
            get 1 0 2 = -1
            """);
        SCRIPT.play("14: it has this number for the row itself", READY, """
            put 1 0 1 10 0 -1 = true
            put 1 0 1 11 0 -1 = false
            put 1 0 2 20 999 -1 = true
            put 1 0 2 21 999 5 = false
            """);
        SCRIPT.play("14: none is no number", READY, """
            put 1 0 1 10 -1 -1 = true
            put 1 0 2 20 -1 -1 = true
            put 1 0 2 21 -1 -1 = false
            """);
        SCRIPT.play("14: no unique index has this number, in the other field or in the other store", READY, """
            put 1 0 1 10 1 5 = true
            put 1 0 2 20 2 5 = true
            put 1 0 3 30 5 1 = true
            commit 1 = 0
            begin 0 2 1 = 2
            put 2 1 1 10 1 5 = true
            put 2 1 2 20 1 5 = true
            """);
        SCRIPT.play("14: the unique index is the one of field 1", """
            open 0 1 = 2
            makeStore 0 2 = ok
            makeIndex 0 2 0 0 = ok
            makeIndex 0 2 1 1 = ok
            put 0 2 1 10 5 5 = true
            put 0 2 2 20 5 5 = state
            put 0 2 2 20 5 6 = true
            put 0 2 2 21 5 5 = state
            put 0 2 2 21 6 5 = state
            """);
        SCRIPT.play("14: the number is free again", READY, """
            put 1 0 1 10 5 -1 = true
            put 1 0 1 11 6 -1 = false
            put 1 0 2 20 5 -1 = true
            remove 1 0 2 2 = 1
            put 1 0 1 12 5 -1 = false
            """);
    }

    private static void putUniqueUndone() {
        SCRIPT.play("14: the number is taken again by an abort", READY, """
            put 1 0 1 10 5 -1 = true
            commit 1 = 0
            begin 0 1 1 = 2
            remove 2 0 1 1 = 1
            put 2 0 2 20 5 -1 = true
            abort 2 = 0
            begin 0 1 1 = 3
            put 3 0 2 20 5 -1 = state
            put 3 0 1 20 5 -1 = false
            """);
    }

    private static void fortyRows() {
        SCRIPT.play("14: 39 rows and one more", READY, Script.puts(1, 0, 1, 39), "put 1 0 999 1 -1 -1 = true\ncount 1 0 0 999 = 40");
        SCRIPT.play("14: there are 40 rows and it would be one more", READY, Script.puts(1, 0, 1, 40), """
            put 1 0 999 1 -1 -1 = state
            put 1 0 0 1 5 -1 = state
            count 1 0 0 999 = 40
            """);
        SCRIPT.play("14: there are 40 rows and it would not be one more", READY, Script.puts(1, 0, 1, 40), """
            put 1 0 40 9 5 5 = false
            put 1 0 1 8 6 5 = false
            get 1 0 40 = 9
            """);
        SCRIPT.play("14: there are 40 rows no more", READY, Script.puts(1, 0, 1, 40), """
            remove 1 0 7 7 = 1
            put 1 0 999 1 -1 -1 = true
            put 1 0 998 1 -1 -1 = state
            """);
        SCRIPT.play("14: 40 rows, other exceptions go first", READY, Script.puts(1, 0, 1, 40), """
            put 1 2 999 1 -1 -1 = bounds
            put 1 0 1000 1 -1 -1 = argument
            put 1 0 999 10000 -1 -1 = argument
            """);
    }

    private static void fortyRowsOfThreeStores() {
        String thirtyNine = """
            open 0 1 = 2
            makeStore 0 0 = ok
            makeStore 0 1 = ok
            makeStore 0 2 = ok
            """ + Script.puts(0, 0, 1, 13) + Script.puts(0, 1, 1, 13) + Script.puts(0, 2, 1, 13);
        SCRIPT.play("14: all stores together have 40 rows", thirtyNine, """
            put 0 1 999 1 -1 -1 = true
            put 0 0 999 1 -1 -1 = state
            put 0 1 998 1 -1 -1 = state
            put 0 2 999 1 -1 -1 = state
            put 0 2 13 1 -1 -1 = false
            """);
        SCRIPT.play("14: a store with 13 rows is deleted", thirtyNine, """
            deleteStore 0 1 = 13
            """, Script.puts(0, 0, 100, 14), """
            put 0 2 999 1 -1 -1 = state
            """);
        SCRIPT.play("14: rows that are not committed count, too", TWO_WRITERS, Script.puts(1, 0, 1, 40), """
            put 2 1 1 1 -1 -1 = state
            abort 1 = 0
            put 2 1 1 1 -1 -1 = true
            """);
    }

    private static void moreThanFortyRows() {
        SCRIPT.play("Terms: they can have more, if rows come back by an abort", TWO_WRITERS, Script.puts(1, 0, 1, 40), """
            commit 1 = 0
            begin 0 1 1 = 3
            remove 3 0 0 999 = 40
            """, Script.puts(2, 1, 1, 40), """
            abort 3 = 0
            count 2 1 0 999 = 40
            begin 0 1 1 = 4
            count 4 0 0 999 = 40
            put 4 0 999 1 -1 -1 = state
            put 2 1 999 1 -1 -1 = state
            put 4 0 1 1 -1 -1 = false
            put 2 1 40 1 -1 -1 = false
            remove 4 0 2 40 = 39
            put 4 0 999 1 -1 -1 = state    // 41 rows
            remove 4 0 1 1 = 1
            put 4 0 999 1 -1 -1 = state    // 40 rows
            remove 2 1 1 1 = 1
            put 4 0 999 1 -1 -1 = true     // it was 39 rows
            put 2 1 1 1 -1 -1 = state
            """);
        SCRIPT.play("Terms: they have 41", TWO_WRITERS, Script.puts(1, 0, 1, 40), """
            commit 1 = 0
            begin 0 1 1 = 3
            remove 3 0 1 1 = 1
            put 2 1 1 1 -1 -1 = true
            abort 3 = 0
            put 2 1 2 1 -1 -1 = state
            put 2 1 1 2 -1 -1 = false
            commit 2 = 0
            begin 0 1 0 = 4
            count 4 0 0 999 = 40
            """);
    }

    private static void moreRowsByAClosedTab() {
        SCRIPT.play("Terms: rows come back as a tab is closed", READY, Script.puts(1, 0, 1, 40), """
            commit 1 = 0
            open 1 1 = 1
            begin 1 1 1 = 2
            begin 0 2 1 = 3
            remove 2 0 0 999 = 40
            put 3 1 1 1 -1 -1 = true
            close 1 = 1
            put 3 1 2 1 -1 -1 = state
            remove 3 1 1 1 = 1
            put 3 1 1 1 -1 -1 = state
            begin 0 1 0 = 4
            count 4 0 0 999 = 40
            """);
    }

    private static void removeRanges() {
        SCRIPT.play("15: no such transaction or store", READY, """
            remove -1 0 1 1 = bounds
            remove 2 0 1 1 = bounds
            remove 2147483647 0 1 1 = bounds
            remove -2147483648 0 1 1 = bounds
            remove 1 -1 1 1 = bounds
            remove 1 2 1 1 = bounds
            remove 1 3 1 1 = bounds
            remove 1 2147483647 1 1 = bounds
            remove 1 -2147483648 1 1 = bounds
            """);
        SCRIPT.play("15: IndexOutOfBoundsException, then IllegalArgumentException, then IllegalStateException", READY, """
            remove 2 0 1000 1000 = bounds
            remove 1 2 1000 1000 = bounds
            remove 0 2 1 1 = bounds
            remove 0 0 1000 1 = argument
            remove 0 0 1 1000 = argument
            remove 1 1 -1 1 = argument
            remove 0 0 1 1 = state
            """);
    }

    private static void removeEmptyAndFull() {
        SCRIPT.play("15: both included", READY, Script.puts(1, 0, 4, 5), """
            remove 1 0 5 7 = 3
            get 1 0 4 = 5
            get 1 0 5 = -1
            get 1 0 6 = -1
            get 1 0 7 = -1
            get 1 0 8 = 5
            """);
        SCRIPT.play("15: from a key to itself", READY, Script.puts(1, 0, 4, 3), "remove 1 0 5 5 = 1\nremove 1 0 5 5 = 0\ncount 1 0 4 6 = 2");
        SCRIPT.play("15: none if the first one is behind the other one", READY, Script.puts(1, 0, 4, 3), """
            remove 1 0 6 4 = 0
            remove 1 0 5 4 = 0
            remove 1 0 3999999 0 = 0
            count 1 0 4 6 = 3
            """);
        SCRIPT.play("15: none in between, and an empty store", READY, """
            remove 1 0 0 3999999 = 0
            put 1 0 5 50 -1 -1 = true
            remove 1 0 6 3999999 = 0
            remove 1 0 0 4 = 0
            """);
        SCRIPT.play("15: all the rows, 40", READY, Script.puts(1, 0, 0, 38), """
            put 1 0 2000001 1 -1 -1 = true
            put 1 0 3999999 1 -1 -1 = true
            remove 1 0 0 3999999 = 40
            count 1 0 0 3999999 = 0
            """);
    }

    private static void removeStates() {
        SCRIPT.play("15: the transaction is not running", READY, """
            put 1 0 1 10 -1 -1 = true
            begin 0 1 1 = 2
            remove 2 0 1 1 = state     // waiting
            commit 1 = 1
            remove 1 0 1 1 = state     // committed
            begin 0 1 1 = 3
            abort 3 = 0
            remove 3 0 1 1 = state     // aborted
            remove 0 0 1 1 = state     // an upgrade that is over
            remove 0 0 2 1 = state     // it would be none
            get 2 0 1 = 10
            """);
        SCRIPT.play("15: it does not write", READY, """
            put 1 0 1 10 -1 -1 = true
            commit 1 = 0
            begin 0 1 0 = 2
            remove 2 0 1 1 = state
            remove 2 0 2 1 = state
            get 2 0 1 = 10
            """);
        SCRIPT.play("15: it does not have the store in its scope", READY, "remove 1 1 1 1 = state\nremove 1 1 2 1 = state");
    }

    private static void getRanges() {
        SCRIPT.play("16: no such transaction or store", READY, """
            get -1 0 1 = bounds
            get 2 0 1 = bounds
            get 2147483647 0 1 = bounds
            get -2147483648 0 1 = bounds
            get 1 -1 1 = bounds
            get 1 2 1 = bounds
            get 1 3 1 = bounds
            get 1 2147483647 1 = bounds
            get 1 -2147483648 1 = bounds
            """);
        SCRIPT.play("16: IndexOutOfBoundsException, then IllegalArgumentException, then IllegalStateException", READY, """
            get 2 0 1000 = bounds
            get 1 2 1000 = bounds
            get 0 2 1 = bounds
            get 0 0 1000 = argument
            get 1 1 -1 = argument
            get 0 0 1 = state
            """);
        SCRIPT.play("16: returns the content, the least and the greatest, -1 if there is no such row", READY, """
            put 1 0 5 0 -1 -1 = true
            put 1 0 6 9999 -1 -1 = true
            get 1 0 4 = -1
            get 1 0 5 = 0
            get 1 0 6 = 9999
            get 1 0 7 = -1
            get 1 0 1000005 = -1
            """);
    }

    private static void getStates() {
        SCRIPT.play("16: the transaction is not running", READY, """
            put 1 0 1 10 -1 -1 = true
            begin 0 1 0 = 2
            get 2 0 1 = state          // waiting
            commit 1 = 1
            get 1 0 1 = state          // committed
            begin 0 1 0 = 3
            abort 3 = 0
            get 3 0 1 = state          // aborted
            get 0 0 1 = state          // an upgrade that is over
            get 2 0 1 = 10
            """);
        SCRIPT.play("16: it does not have the store in its scope", READY, "get 1 1 1 = state");
        SCRIPT.play("16: it need not write", READY, "commit 1 = 0\nbegin 0 1 0 = 2\nget 2 0 1 = -1");
    }

    private static void countRanges() {
        SCRIPT.play("17: no such transaction or store", READY, """
            count -1 0 1 1 = bounds
            count 2 0 1 1 = bounds
            count 2147483647 0 1 1 = bounds
            count -2147483648 0 1 1 = bounds
            count 1 -1 1 1 = bounds
            count 1 2 1 1 = bounds
            count 1 3 1 1 = bounds
            count 1 2147483647 1 1 = bounds
            count 1 -2147483648 1 1 = bounds
            """);
        SCRIPT.play("17: IndexOutOfBoundsException, then IllegalArgumentException, then IllegalStateException", READY, """
            count 2 0 1000 1000 = bounds
            count 1 2 1000 1000 = bounds
            count 0 2 1 1 = bounds
            count 0 0 1000 1 = argument
            count 0 0 1 1000 = argument
            count 1 1 -1 1 = argument
            count 0 0 1 1 = state
            """);
    }

    private static void countEmptyAndFull() {
        SCRIPT.play("17: both included", READY, Script.puts(1, 0, 4, 5), """
            count 1 0 5 7 = 3
            count 1 0 4 8 = 5
            count 1 0 3 9 = 5
            count 1 0 5 5 = 1
            """);
        SCRIPT.play("17: 0 if the first one is behind the other one", READY, Script.puts(1, 0, 4, 5), """
            count 1 0 6 5 = 0
            count 1 0 8 4 = 0
            count 1 0 3999999 0 = 0
            """);
        SCRIPT.play("17: none in between, and an empty store", READY, """
            count 1 0 0 3999999 = 0
            put 1 0 5 50 -1 -1 = true
            count 1 0 6 3999999 = 0
            count 1 0 0 4 = 0
            """);
        SCRIPT.play("17: all the rows, 40", READY, Script.puts(1, 0, 0, 39), """
            put 1 0 3999999 1 -1 -1 = true
            count 1 0 0 3999999 = 40
            """);
    }

    private static void countStates() {
        SCRIPT.play("17: the transaction is not running", READY, """
            begin 0 1 0 = 2
            count 2 0 1 1 = state      // waiting
            commit 1 = 1
            count 1 0 1 1 = state      // committed
            begin 0 1 0 = 3
            abort 3 = 0
            count 3 0 1 1 = state      // aborted
            count 0 0 1 1 = state      // an upgrade that is over
            count 0 0 2 1 = state      // it would be 0
            count 2 0 1 1 = 0
            """);
        SCRIPT.play("17: it does not have the store in its scope", READY, "count 1 1 1 1 = state\ncount 1 1 2 1 = state");
        SCRIPT.play("17: it need not write", READY, "commit 1 = 0\nbegin 0 1 0 = 2\ncount 2 0 1 1 = 0");
    }

    private static void fiveHundredTwelveCalls() {
        SCRIPT.play("Terms: an object is used for at most 512 calls", READY, Script.puts(1, 0, 1, 40), """
            232 x put 1 0 1 9999 999 999 = false
            231 x put 1 0 40 9999 998 999 = false
            get 1 0 1 = 9999
            put 1 0 999 1 -1 -1 = state
            commit 1 = 0
            """);
    }
}
