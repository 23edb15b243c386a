import java.util.ArrayList;
import java.util.List;

/**
 * A look at all of an object's state that calls can show: it asks what there is, then lets every transaction
 * and tab come to its end and asks again. Two objects in the same state give the same look.
 */
final class Look {
    private static final int ALL_FROM = 0;
    private static final int ALL_TO = 3999999;
    private static final int PUT_KEY = 998;
    private static final String[] NUMBERS_TO_PUT = {"1 1", "5 2", "0 0", "7 999"};

    private final Face face;
    private final List<String> seen = new ArrayList<>();
    private int callsLeft;

    private Look(Face face, int callsLeft) {
        this.face = face;
        this.callsLeft = callsLeft;
    }

    /** The answers of a look, each behind its call. */
    static List<String> at(Face face, int callsLeft) {
        Look look = new Look(face, callsLeft);
        int cursors = look.cursors();
        int transactions = look.tabsAndTransactions();
        for (int i = 0; i < transactions; i++) {
            look.rows(i);
        }
        look.moveCursors(cursors);
        for (int i = 0; i < transactions; i++) {
            look.write(i);
        }
        look.endTransactions(transactions);
        look.readAnew();
        look.openAndClose();
        return look.seen;
    }

    private String ask(String call, int... arguments) {
        return ask(Call.of(call, arguments));
    }

    private String ask(Call call) {
        if (callsLeft == 0) {
            return "state";
        }
        callsLeft--;
        String answer = call.answerOf(face);
        seen.add(call + " = " + answer);
        return answer;
    }

    // A content out of range tells whether there is a cursor, and is refused in any case.
    private int cursors() {
        int count = 0;
        while (ask("update", count, -1).equals("argument")) {
            count++;
        }
        return count;
    }

    private int tabsAndTransactions() {
        ask("version");
        ask("upgrade");
        for (int tab = 0; tab < 4; tab++) {
            ask("state", tab);
        }
        int count = 0;
        while (!Call.isException(ask("standing", count))) {
            count++;
        }
        return count;
    }

    private boolean isRunning(int transaction) {
        return ask("standing", transaction).equals("1");
    }

    private void rows(int transaction) {
        if (!isRunning(transaction)) {
            return;
        }
        for (int store = 0; store < 3; store++) {
            if (!Call.isException(ask("count", transaction, store, ALL_FROM, ALL_TO))) {
                for (int field = -1; field < 2; field++) {
                    walk(ask("cursor", transaction, store, field, 0), transaction, store);
                }
            }
        }
    }

    private void walk(String cursor, int transaction, int store) {
        if (Call.isException(cursor)) {
            return;
        }
        String key = ask("step", Integer.parseInt(cursor));
        while (!Call.isException(key) && !key.equals("-1")) {
            ask("get", transaction, store, Integer.parseInt(key));
            key = ask("step", Integer.parseInt(cursor));
        }
    }

    private void moveCursors(int cursors) {
        for (int cursor = 0; cursor < cursors; cursor++) {
            String key = "";
            while (!Call.isException(key) && !key.equals("-1")) {
                ask("update", cursor, 4321 + cursor);
                key = ask("step", cursor);
            }
        }
    }

    private void write(int transaction) {
        if (!isRunning(transaction)) {
            return;
        }
        for (int store = 0; store < 3; store++) {
            ask("makeIndex", transaction, store, 0, 0);
            for (String numbers : NUMBERS_TO_PUT) {
                ask(Call.read("put " + transaction + " " + store + " " + PUT_KEY + " 1 " + numbers));
            }
        }
    }

    private void endTransactions(int transactions) {
        for (int i = 0; i < transactions; i++) {
            ask(i % 2 == 0 ? "abort" : "commit", i);
        }
        tabsAndTransactions();
    }

    private void readAnew() {
        for (int tab = 0; tab < 4; tab++) {
            for (int store = 0; store < 3; store++) {
                String begun = ask("begin", tab, 1 << store, 1);
                if (!Call.isException(begun)) {
                    rows(Integer.parseInt(begun));
                }
            }
        }
    }

    private void openAndClose() {
        for (int tab = 0; tab < 4; tab++) {
            ask("close", tab);
            tabsAndTransactions();
        }
        ask("open", 1, 100);
        tabsAndTransactions();
    }
}
