/** Plays runs of calls, a line each: "call = answer"; several lines' calls may be told as "3 x call = answer". */
final class Script {
    private int wrong = 0;

    /** Plays a run on a new object. */
    void play(String title, String... parts) {
        Face face = new Program();
        int line = 0;
        for (String text : String.join("\n", parts).split("\n")) {
            line++;
            String row = text.replaceAll("//.*", "").trim();
            if (!row.isEmpty()) {
                playRow(title + ", line " + line, face, row);
            }
        }
    }

    private void playRow(String where, Face face, String row) {
        int times = 1;
        if (row.matches("\\d+ x .*")) {
            times = Integer.parseInt(row.substring(0, row.indexOf(' ')));
            row = row.substring(row.indexOf('x') + 1);
        }
        String[] sides = row.split("=");
        Call call = Call.read(sides[0]);
        String due = sides[1].trim();
        for (int i = 0; i < times; i++) {
            String got = call.answerOf(face);
            // A star stands for any answer that is no exception.
            boolean isRight = due.equals("*") ? !Call.isException(got) : due.equals(got);
            if (!isRight) {
                wrong++;
                System.out.println(where + ": " + call + " answered " + got + ", due is " + due);
            }
        }
    }

    void end() {
        if (wrong > 0) {
            System.out.println(wrong + " answers are wrong");
            System.exit(1);
        }
    }
}
