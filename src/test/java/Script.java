import java.util.ArrayList;
import java.util.List;

/**
 * Plays runs of calls, a line each: "call = answer"; several lines' calls may be told as "3 x call = answer".
 * Behind each call that has to throw it also looks whether the call changed nothing.
 */
final class Script {
    private static final int CALLS = 512;

    private int wrong = 0;

    /** Plays a run on a new object. */
    void play(String title, String... parts) {
        Face face = new Program();
        List<Call> played = new ArrayList<>();
        int line = 0;
        for (String text : String.join("\n", parts).split("\n")) {
            line++;
            String row = text.replaceAll("//.*", "").trim();
            if (!row.isEmpty()) {
                playRow(title + ", line " + line, face, played, row);
            }
        }
    }

    private void playRow(String where, Face face, List<Call> played, String row) {
        int times = 1;
        if (row.matches("\\d+ x .*")) {
            times = Integer.parseInt(row.substring(0, row.indexOf(' ')));
            row = row.substring(row.indexOf('x') + 1);
        }
        String[] sides = row.split("=");
        Call call = Call.read(sides[0]);
        String due = sides[1].trim();
        for (int i = 0; i < times; i++) {
            String got = call.answerOf(face);
            // A star stands for any answer that is no exception.
            boolean isRight = due.equals("*") ? !Call.isException(got) : due.equals(got);
            if (!isRight) {
                wrong++;
                System.out.println(where + ": " + call + " answered " + got + ", due is " + due);
            } else if (Call.isException(due)) {
                checkChangesNothing(where, played, call);
            }
            played.add(call);
        }
        if (played.size() > CALLS) {
            wrong++;
            System.out.println(where + ": nothing is promised behind call " + CALLS);
        }
    }

    private void checkChangesNothing(String where, List<Call> before, Call refused) {
        int callsLeft = CALLS - before.size() - 1;
        Face asked = replay(before);
        refused.answerOf(asked);
        List<String> got = Look.at(asked, callsLeft);
        List<String> due = Look.at(replay(before), callsLeft);
        if (got.equals(due)) {
            return;
        }
        int first = 0;
        while (first < got.size() && first < due.size() && got.get(first).equals(due.get(first))) {
            first++;
        }
        wrong++;
        System.out.println(where + ": " + refused + " was refused and changed what is there: "
                + got.subList(first, Math.min(first + 1, got.size())) + ", due is "
                + due.subList(first, Math.min(first + 1, due.size())));
    }

    private static Face replay(List<Call> calls) {
        Face face = new Program();
        for (Call call : calls) {
            call.answerOf(face);
        }
        return face;
    }

    /** Lines that put as many new rows without numbers, from a first key on upward. */
    static String puts(int transaction, int store, int firstKey, int count) {
        StringBuilder lines = new StringBuilder();
        for (int i = 0; i < count; i++) {
            lines.append("put ").append(transaction).append(' ').append(store).append(' ').append(firstKey + i)
                .append(" 5 -1 -1 = true\n");
        }
        return lines.toString();
    }

    void end() {
        if (wrong > 0) {
            System.out.println(wrong + " answers are wrong");
            System.exit(1);
        }
    }
}
