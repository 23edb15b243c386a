import java.util.ArrayList;
import java.util.List;

/**
 * Which exception goes first, if several apply: every call is asked with all combinations of right values and
 * wrong ones, and an object that has refused many calls is in the same state as one that was not asked.
 */
public final class PrecedenceTest {
    // Stores 0 and 1 are there, 0 with an index for field 0; transaction 0 is committed; tab 0 is open, tab 1 closed,
    // tab 2 blocked; of tab 0 transaction 1 writes to store 0 and runs, 2 waits, 3 reads store 1 and runs;
    // cursor 0 is at row 7, cursor 1 over, cursor 2 ahead, cursor 3 of transaction 3 at row 8, which does not write.
    private static final String AT_WORK = """
        open 0 1
        makeStore 0 0
        makeStore 0 1
        makeIndex 0 0 0 1
        put 0 1 8 80 8 8
        commit 0
        open 2 5
        begin 0 1 1
        begin 0 1 1
        begin 0 2 0
        put 1 0 7 70 7 7
        put 1 0 9 90 9 9
        cursor 1 0 -1 0
        cursor 1 0 0 1
        cursor 1 0 0 2
        cursor 3 1 -1 0
        step 0
        step 1
        step 1
        step 1
        step 3
        """;
    // Of the stores 0 is there, with an index for field 0, and 1 and 2 are not; 1 is the upgrade that is running.
    private static final String IN_UPGRADE = """
        open 0 1
        makeStore 0 0
        makeIndex 0 0 0 0
        put 0 0 7 70 7 7
        put 0 0 9 90 7 7
        commit 0
        close 0
        open 0 2
        """;
    private static final String TABS = "-1:bounds 4:bounds -2147483648:bounds 2147483647:bounds";
    private static final String WORKS = "-1:bounds 4:bounds -2147483648:bounds 2147483647:bounds";
    private static final String STORES = "-1:bounds 2:bounds 3:bounds -2147483648:bounds 2147483647:bounds";
    private static final String KEYS = "-1:argument 1000:argument 4000000:argument 2147483647:argument";
    private static final String CONTENTS = "-1:argument 10000:argument -2147483648:argument 2147483647:argument";
    private static final String NUMBERS = "-2:argument 1000:argument -2147483648:argument 2147483647:argument";
    private static final String UPGRADES = "-1:bounds 2:bounds -2147483648:bounds 2147483647:bounds";
    private static final int CALLS_OF_AN_OBJECT = 100;
    private static final int CALLS_OF_A_LOOK = 300;

    private static int wrong = 0;

    public static void main(String[] args) {
        tabs();
        upgrades();
        transactions();
        rows();
        cursors();
        if (wrong > 0) {
            System.out.println(wrong + " answers are wrong");
            System.exit(1);
        }
    }

    private static void tabs() {
        play(AT_WORK, "open", "1 0:state 2:state " + TABS,
            "5 1 100 0:argument 101:argument -2147483648:argument 2147483647:argument");
        play(AT_WORK, "close", "0 1:state " + TABS);
        play(AT_WORK, "state", "0 1 2 3 " + TABS);
    }

    private static void upgrades() {
        play(IN_UPGRADE, "makeStore", "1 0:state " + UPGRADES, "1 2 0:state -1:bounds 3:bounds 2147483647:bounds");
        play(IN_UPGRADE, "deleteStore", "1 0:state " + UPGRADES, "0 1:bounds " + STORES);
        play(IN_UPGRADE, "makeIndex", "1 0:state " + UPGRADES, "0 1:bounds " + STORES,
            "1 0:state -1:bounds 2:bounds -2147483648:bounds 2147483647:bounds", "0");
        play(IN_UPGRADE, "makeIndex", "1 0:state " + UPGRADES, "0 1:bounds " + STORES,
            "1:state 0:state -1:bounds 2:bounds -2147483648:bounds 2147483647:bounds", "1");
        play(IN_UPGRADE, "begin", "0:state 1:state " + TABS, "1 2:bounds 7:bounds 0:argument 8:argument", "0 1");
        play(IN_UPGRADE, "cursor", "1 0:state " + UPGRADES, "0 1:bounds " + STORES,
            "-1 0 1:state -2:bounds 2:bounds", "0 3 -1:argument 4:argument");
    }

    private static void transactions() {
        play(AT_WORK, "begin", "0 1:state 2:state " + TABS,
            "1 2 3 4:bounds 5:bounds 6:bounds 7:bounds 0:argument 8:argument 12:argument -1:argument "
                + "-2147483648:argument 2147483647:argument", "0 1");
        play(AT_WORK, "standing", "0 1 2 3 " + WORKS);
        play(AT_WORK, "commit", "1 3 0:state 2:state " + WORKS);
        play(AT_WORK, "abort", "1 2 3 0:state " + WORKS);
    }

    private static void rows() {
        play(AT_WORK, "put", "1 0:state 2:state " + WORKS, "0 1:state " + STORES, "7 " + KEYS, "0 9999 " + CONTENTS,
            "-1 0 999 9:state " + NUMBERS, "0 999 -1 " + NUMBERS);
        play(AT_WORK, "put", "3:state", "0 1 " + STORES, "8 " + KEYS, "0 9999 " + CONTENTS, "-1 999 " + NUMBERS, "0");
        play(AT_WORK, "remove", "1 0:state 2:state 3:state " + WORKS, "0 1:state " + STORES, "0 9 " + KEYS, "0 7 " + KEYS);
        play(AT_WORK, "get", "1 0:state 2:state " + WORKS, "0 1:state " + STORES, "0 7 3999999 " + KEYS);
        play(AT_WORK, "get", "3", "1 0:state " + STORES, "0 8 3999999 " + KEYS);
        play(AT_WORK, "count", "1 0:state 2:state " + WORKS, "0 1:state " + STORES, "0 9 " + KEYS, "0 7 " + KEYS);
    }

    private static void cursors() {
        play(AT_WORK, "cursor", "1 0:state 2:state " + WORKS, "0 1:state " + STORES,
            "-1 0 1:state -2:bounds 2:bounds -2147483648:bounds 2147483647:bounds",
            "0 1 2 3 -1:argument 4:argument -2147483648:argument 2147483647:argument");
        play(AT_WORK, "step", "0 2 3 1:state " + WORKS);
        play(AT_WORK, "update", "0 1:state 2:state 3:state " + WORKS, "0 9999 " + CONTENTS);
    }

    /** Asks one call with all combinations of the parameters' values, each with its fault behind a colon. */
    private static void play(String before, String name, String... parameters) {
        List<Call> refused = new ArrayList<>();
        List<String> due = new ArrayList<>();
        combine(name, parameters, new int[parameters.length], 0, "", refused, due);
        for (int i = 0; i < refused.size(); i += CALLS_OF_AN_OBJECT) {
            int end = Math.min(refused.size(), i + CALLS_OF_AN_OBJECT);
            playOnOne(before, refused.subList(i, end), due.subList(i, end));
        }
        if (refused.isEmpty()) {
            wrong++;
            System.out.println(name + ": no call is refused");
        }
    }

    private static void combine(String name, String[] parameters, int[] values, int place, String fault,
            List<Call> calls, List<String> due) {
        if (place == parameters.length) {
            if (!fault.isEmpty()) {
                calls.add(Call.of(name, values));
                due.add(fault);
            }
            return;
        }
        for (String word : parameters[place].split(" ")) {
            String[] sides = word.split(":");
            values[place] = Integer.parseInt(sides[0]);
            String first = sides.length == 1 ? fault : goesFirst(fault, sides[1]);
            combine(name, parameters, values, place + 1, first, calls, due);
        }
    }

    private static String goesFirst(String fault, String other) {
        for (String first : List.of("bounds", "argument")) {
            if (fault.equals(first) || other.equals(first)) {
                return first;
            }
        }
        return "state";
    }

    private static void playOnOne(String before, List<Call> calls, List<String> due) {
        Face asked = prepared(before);
        for (int i = 0; i < calls.size(); i++) {
            String got = calls.get(i).answerOf(asked);
            if (!got.equals(due.get(i))) {
                wrong++;
                System.out.println(calls.get(i) + " answered " + got + ", due is " + due.get(i) + ", behind\n" + before);
            }
        }
        if (!Look.at(asked, CALLS_OF_A_LOOK).equals(Look.at(prepared(before), CALLS_OF_A_LOOK))) {
            wrong++;
            System.out.println(calls.get(0) + " and the next ones were refused and changed what is there");
        }
    }

    private static Face prepared(String before) {
        Face face = new Program();
        for (String line : before.split("\n")) {
            String answer = Call.read(line).answerOf(face);
            if (Call.isException(answer)) {
                wrong++;
                System.out.println(line + " answered " + answer);
            }
        }
        return face;
    }
}
