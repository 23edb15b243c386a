/** Promises 18 to 20: cursors. */
public final class CursorsTest {
    private static final Script SCRIPT = new Script();

    // Store 0 has an index for field 0; transaction 1 writes to it; the numbers in field 0 are 5, 5, 5, 7, 7, none.
    private static final String READY = """
        open 0 1 = 2
        makeStore 0 0 = ok
        makeStore 0 1 = ok
        makeIndex 0 0 0 0 = ok
        commit 0 = 0
        begin 0 1 1 = 1
        put 1 0 40 1 5 -1 = true
        put 1 0 20 2 5 -1 = true
        put 1 0 30 3 5 -1 = true
        put 1 0 10 4 7 -1 = true
        put 1 0 50 5 7 -1 = true
        put 1 0 60 6 -1 3 = true
        """;

    public static void main(String[] args) {
        cursor();
        byKeys();
        byIndex();
        withoutDoubles();
        rowsGoAndCome();
        numbersChange();
        overForGood();
        stepWrong();
        storeIsMadeAnew();
        update();
        updateWrong();
        SCRIPT.end();
    }

    private static void cursor() {
        SCRIPT.play("promise 18, cursor", READY, """
            cursor 1 0 -1 0 = 0
            cursor 1 0 0 3 = 1
            cursor 2 0 0 0 = bounds
            cursor 1 2 0 0 = bounds
            cursor 1 3 0 0 = bounds
            cursor 1 0 -2 0 = bounds
            cursor 1 0 2 4 = bounds
            cursor 1 0 0 -1 = argument
            cursor 1 0 0 4 = argument
            cursor 0 0 0 4 = argument
            cursor 1 0 1 0 = state      // no such index
            cursor 1 1 -1 0 = state     // not in the scope
            cursor 0 0 -1 0 = state     // committed
            begin 0 1 0 = 2
            cursor 2 0 -1 0 = state     // waiting
            38 x cursor 1 0 -1 0 = *
            step 39 = 10
            step 40 = bounds
            cursor 1 0 -1 0 = state     // there are 40
            cursor 1 0 -1 4 = argument
            commit 1 = 1
            cursor 2 0 -1 0 = state
            """);
    }

    private static void byKeys() {
        SCRIPT.play("by keys", READY, """
            cursor 1 0 -1 0 = 0
            6 x step 0 = *
            step 0 = -1
            cursor 1 0 -1 2 = 1
            step 1 = 10
            step 1 = 20
            step 1 = 30
            step 1 = 40
            step 1 = 50
            step 1 = 60
            step 1 = -1
            cursor 1 0 -1 1 = 2
            step 2 = 60
            step 2 = 50
            step 2 = 40
            cursor 1 0 -1 3 = 3
            step 3 = 60
            step 3 = 50
            step 2 = 30
            step 2 = 20
            step 2 = 10
            step 2 = -1
            """);
    }

    private static void byIndex() {
        SCRIPT.play("by an index", READY, """
            cursor 1 0 0 0 = 0
            step 0 = 20
            step 0 = 30
            step 0 = 40
            step 0 = 10
            step 0 = 50
            step 0 = -1
            cursor 1 0 0 1 = 1
            step 1 = 50
            step 1 = 10
            step 1 = 40
            step 1 = 30
            step 1 = 20
            step 1 = -1
            """);
        SCRIPT.play("numbers 0 and 999, texts by letters", READY, """
            remove 1 0 0 999 = 6
            put 1 0 2000002 1 0 -1 = true
            put 1 0 2010101 1 0 -1 = true
            put 1 0 3999999 1 999 -1 = true
            put 1 0 0 1 999 -1 = true
            cursor 1 0 0 0 = 0
            step 0 = 2010101
            step 0 = 2000002
            step 0 = 0
            step 0 = 3999999
            step 0 = -1
            cursor 1 0 0 3 = 1
            step 1 = 0
            step 1 = 2010101
            step 1 = -1
            cursor 1 0 0 1 = 2
            step 2 = 3999999
            step 2 = 0
            step 2 = 2000002
            step 2 = 2010101
            step 2 = -1
            """);
    }

    private static void withoutDoubles() {
        SCRIPT.play("without doubles", READY, """
            cursor 1 0 0 2 = 0
            step 0 = 20
            step 0 = 10
            step 0 = -1
            cursor 1 0 0 3 = 1
            step 1 = 10
            step 1 = 20
            step 1 = -1
            """);
    }

    private static void rowsGoAndCome() {
        SCRIPT.play("rows go and come", READY, """
            cursor 1 0 0 0 = 0
            cursor 1 0 0 1 = 1
            cursor 1 0 0 2 = 2
            cursor 1 0 0 3 = 3
            step 0 = 20
            step 1 = 50
            step 2 = 20
            step 3 = 10
            remove 1 0 20 20 = 1
            remove 1 0 50 50 = 1
            remove 1 0 10 10 = 1
            put 1 0 25 1 5 -1 = true
            put 1 0 15 1 5 -1 = true    // ahead of the place of cursor 0
            put 1 0 45 1 7 -1 = true
            step 0 = 25
            step 1 = 45
            step 2 = 45                 // another number than 5
            step 3 = 15                 // the lowest key with 5 now
            put 1 0 1 1 5 -1 = true
            put 1 0 70 1 4 -1 = true
            step 3 = 70
            put 1 0 80 1 6 -1 = true
            step 2 = -1
            step 0 = 30
            step 0 = 40
            step 0 = 80
            step 0 = 45
            step 0 = -1
            """);
        SCRIPT.play("a row that comes at the place again is behind no more", READY, """
            cursor 1 0 -1 0 = 0
            step 0 = 10
            remove 1 0 10 10 = 1
            put 1 0 10 1 1 1 = true
            step 0 = 20
            """);
    }

    private static void numbersChange() {
        SCRIPT.play("a place is as it was when it was stepped to", READY, """
            cursor 1 0 0 0 = 0
            step 0 = 20
            put 1 0 20 2 6 -1 = false
            step 0 = 30
            step 0 = 40
            step 0 = 20                 // it came behind the place
            put 1 0 20 2 -1 -1 = false
            step 0 = 10
            put 1 0 50 2 -1 -1 = false
            step 0 = -1
            """);
    }

    private static void overForGood() {
        SCRIPT.play("over for good", READY, """
            cursor 1 0 0 0 = 0
            5 x step 0 = *
            step 0 = -1
            put 1 0 99 1 99 -1 = true
            step 0 = state
            update 0 1 = state
            remove 1 0 0 999 = 7
            cursor 1 0 0 3 = 1
            step 1 = -1
            step 1 = state
            """);
    }

    private static void stepWrong() {
        SCRIPT.play("promise 19, wrong", """
            step 0 = bounds
            """, READY, """
            cursor 1 0 -1 0 = 0
            step -1 = bounds
            step 1 = bounds
            step 0 = 10
            commit 1 = 0
            step 0 = state
            begin 0 1 0 = 2
            step 0 = state
            cursor 2 0 -1 0 = 1
            step 1 = 10
            close 0 = 1
            step 1 = state
            """);
    }

    private static void storeIsMadeAnew() {
        SCRIPT.play("promise 19, a store that is made anew", """
            open 0 1 = 2
            makeStore 0 0 = ok
            makeIndex 0 0 0 0 = ok
            put 0 0 1 10 5 -1 = true
            put 0 0 2 20 6 -1 = true
            cursor 0 0 0 0 = 0
            cursor 0 0 -1 1 = 1
            step 0 = 1
            deleteStore 0 0 = 2
            step 0 = state
            step 1 = state
            update 0 7 = state
            makeStore 0 0 = ok
            put 0 0 3 30 4 -1 = true
            put 0 0 1 11 9 -1 = true
            put 0 0 4 40 7 -1 = true
            update 0 7 = 11             // the key of its place is there
            step 0 = 4                  // by the field, without an index
            step 0 = 1
            step 0 = -1
            step 1 = 4
            cursor 0 0 0 0 = state
            """);
    }

    private static void update() {
        SCRIPT.play("promise 20, update", READY, """
            cursor 1 0 0 2 = 0
            step 0 = 20
            update 0 0 = 2
            get 1 0 20 = 0
            update 0 9999 = 0
            get 1 0 20 = 9999
            put 1 0 20 8 9 9 = false
            update 0 1 = 8              // its number is another one now
            cursor 1 0 0 1 = 1
            step 1 = 20                 // and stays so
            remove 1 0 20 20 = 1
            update 0 1 = state
            put 1 0 20 3 -1 -1 = true
            update 0 1 = 3
            get 1 0 20 = 1
            step 0 = 10
            count 1 0 0 999 = 6
            """);
    }

    private static void updateWrong() {
        SCRIPT.play("promise 20, wrong", READY, """
            update 0 10000 = bounds
            cursor 1 0 0 0 = 0
            update -1 5 = bounds
            update 1 5 = bounds
            update 0 -1 = argument
            update 0 10000 = argument
            update 0 5 = state          // ahead of all entries
            step 0 = 20
            update 0 5 = 2
            commit 1 = 0
            update 0 5 = state
            update 0 10000 = argument
            begin 0 1 0 = 2
            cursor 2 0 0 0 = 1
            step 1 = 20
            update 1 5 = state          // does not write
            get 2 0 20 = 5
            """);
    }
}
