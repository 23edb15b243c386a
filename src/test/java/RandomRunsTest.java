import java.util.ArrayList;
import java.util.List;
import java.util.Map;
import java.util.Random;
import java.util.TreeMap;
import java.util.function.IntPredicate;
import java.util.stream.IntStream;

/**
 * Plays long runs of calls, the same ones each time, against the model; then plays those without
 * the calls that threw, whose answers have to be the same: so a call that throws changes nothing.
 */
public final class RandomRunsTest {
    private static final int RUNS = 3000;
    private static final int CALLS = 512;
    private static final int[] KEYS = {
        0, 1, 7, 999, 1000000, 1000003, 1000999, 2000001, 2000002, 2000026, 2000101, 2000126, 2000201,
        2002626, 2010101, 2010102, 2010201, 2012626, 2020101, 2262626, 3000000, 3000001, 3000999,
        3001000, 3999999};
    private static final int[] WRONG_KEYS = {
        -1, 1000, 999999, 1001000, 1999999, 2000000, 2000027, 2000099, 2000100, 2000127, 2002700, 2010001,
        2010100, 2010127, 2012701, 2270101, 2999999, 4000000, Integer.MAX_VALUE, Integer.MIN_VALUE};
    private static final String[] TAB_CALLS = {"open", "open", "open", "close", "state", "version", "upgrade"};
    private static final String[] UPGRADE_CALLS = {"makeStore", "makeIndex", "makeIndex", "deleteStore"};
    private static final String[] WORK_CALLS = {"begin", "begin", "begin", "standing", "commit", "abort"};
    private static final String[] ROW_CALLS = {"put", "put", "put", "put", "put", "remove", "get", "count"};
    private static final String[] CURSOR_CALLS = {"cursor", "step", "step", "step", "step", "step", "update"};
    private static final String[][] GROUPS = {TAB_CALLS, UPGRADE_CALLS, WORK_CALLS, ROW_CALLS, CURSOR_CALLS};
    // How often each group is called: a kind of run for rows, tabs, cursors, transactions, many rows, upgrades.
    private static final int[][] KINDS_OF_RUN = {
        {4, 4, 12, 50, 30}, {40, 15, 25, 15, 5}, {1, 2, 4, 33, 60}, {6, 3, 61, 28, 2}, {1, 1, 5, 88, 5},
        {25, 40, 10, 15, 10}};

    private final Model model = new Model();
    private final Random random;
    private final int[] weights;
    private final int wrongInThousand;
    private final int numbers;
    private final boolean hasManyKeys;

    private RandomRunsTest(int seed) {
        random = new Random(seed);
        int kind = seed % KINDS_OF_RUN.length;
        weights = KINDS_OF_RUN[kind];
        wrongInThousand = seed % 5 == 0 ? 0 : 10;
        hasManyKeys = kind == 4;
        numbers = hasManyKeys ? 999 : 2 + seed % 17;
    }

    public static void main(String[] args) {
        Map<String, Integer> seen = new TreeMap<>();
        for (int seed = 0; seed < RUNS; seed++) {
            new RandomRunsTest(seed).play(seed, seen);
        }
        int missing = 0;
        for (String answer : mustBeSeen()) {
            if (seen.getOrDefault(answer, 0) < 20) {
                System.out.println("too seldom: " + answer + ", " + seen.getOrDefault(answer, 0) + " times");
                missing++;
            }
        }
        if (args.length > 0) {
            seen.forEach((answer, times) -> System.out.println(times + " " + answer));
        }
        if (missing > 0) {
            System.exit(1);
        }
    }

    private void play(int seed, Map<String, Integer> seen) {
        Face program = new Program();
        List<Call> played = new ArrayList<>();
        List<String> answers = new ArrayList<>();
        int idle = 0;
        for (int i = 0; i < CALLS && idle < 60; i++) {
            Call call = nextCall();
            idle += model.transactions() == 60 && !isAnyRunning() ? 1 : 0;
            String due = call.answerOf(model);
            played.add(call);
            answers.add(due);
            check(seed, played, answers, call.answerOf(program));
            seen.merge(call.name() + " " + kindOf(call, due), 1, Integer::sum);
        }
        playWithoutThrown(seed, played, answers);
    }

    private static void playWithoutThrown(int seed, List<Call> calls, List<String> answers) {
        Face program = new Program();
        List<Call> played = new ArrayList<>();
        List<String> due = new ArrayList<>();
        for (int i = 0; i < calls.size(); i++) {
            if (!Call.isException(answers.get(i))) {
                played.add(calls.get(i));
                due.add(answers.get(i));
                check(seed, played, due, calls.get(i).answerOf(program));
            }
        }
    }

    private static void check(int seed, List<Call> calls, List<String> answers, String got) {
        int last = calls.size() - 1;
        if (got.equals(answers.get(last))) {
            return;
        }
        for (int i = 0; i <= last; i++) {
            System.out.println(calls.get(i) + " = " + answers.get(i));
        }
        System.out.println("run " + seed + ": the last call answered " + got);
        System.exit(1);
    }

    private static String kindOf(Call call, String answer) {
        if (Call.isException(answer) || List.of("put", "open", "close", "standing", "state").contains(call.name())) {
            return answer;
        }
        if (answer.startsWith("-") || answer.equals("0") || answer.equals("ok")) {
            return answer;
        }
        return "more";
    }

    private static List<String> mustBeSeen() {
        List<String> must = new ArrayList<>();
        String[] rows = {
            "open 1 2 3 bounds argument state", "close 1 2 3 bounds state", "state 0 1 2 3 bounds", "version 0 more",
            "upgrade -1 0 more", "makeStore ok bounds state", "deleteStore 0 more bounds state",
            "makeIndex ok bounds state", "begin more bounds argument state", "standing 0 1 2 3 bounds",
            "commit 0 more bounds state", "abort 0 more bounds state", "put true false bounds argument state",
            "remove 0 more bounds argument state", "get -1 more bounds argument state",
            "count 0 more bounds argument state", "cursor more bounds argument state", "step -1 more bounds state",
            "update more bounds argument state"};
        for (String row : rows) {
            String[] words = row.split(" ");
            for (int i = 1; i < words.length; i++) {
                must.add(words[0] + " " + words[i]);
            }
        }
        return must;
    }

    private Call nextCall() {
        if (model.transactions() == 0) {
            return Call.of("open", random.nextInt(4), 1 + random.nextInt(3));
        }
        int choice = random.nextInt(100);
        int group = 0;
        while (group < GROUPS.length - 1 && choice >= weights[group]) {
            choice -= weights[group];
            group++;
        }
        if (model.upgrade() >= 0 && random.nextInt(4) == 0) {
            return upgradeCall();
        }
        boolean hasStores = pick(model::hasStore, 3) >= 0;
        if (!isAnyRunning() && random.nextInt(3) > 0) {
            String[] starts = {"open", hasStores ? "begin" : "close"};
            return callOf(starts[random.nextInt(starts.length)]);
        }
        return callOf(GROUPS[group][random.nextInt(GROUPS[group].length)]);
    }

    private Call upgradeCall() {
        if (pick(model::hasStore, 3) < 0 && random.nextInt(8) > 0) {
            return callOf("makeStore");
        }
        int choice = random.nextInt(20);
        if (choice < 3) {
            return Call.of("commit", model.upgrade());
        }
        return choice == 3 ? Call.of("abort", model.upgrade()) : callOf(UPGRADE_CALLS[choice % 3]);
    }

    private boolean isAnyRunning() {
        return pick(i -> model.standing(i) == 1, model.transactions()) >= 0;
    }

    /** Some number below the end that is like this, -1 if none was found. */
    private int pick(IntPredicate isLikeThis, int end) {
        int[] found = IntStream.range(0, end).filter(isLikeThis).toArray();
        return found.length == 0 ? -1 : found[random.nextInt(found.length)];
    }

    private Call callOf(String name) {
        switch (name) {
            case "open": return Call.of(name, closedTab(), wish());
            case "close": return Call.of(name, random.nextInt(3) == 0 ? tab() : openTab());
            case "state": return Call.of(name, tab());
            case "version": case "upgrade": return Call.of(name);
            case "makeStore": case "deleteStore": return Call.of(name, upgradeOrOther(), store());
            case "makeIndex": return Call.of(name, upgradeOrOther(), store(), among(-1, 2, random.nextInt(2)), random.nextInt(2));
            case "begin": return Call.of(name, openTab(), scope(), random.nextInt(2));
            case "standing": case "commit": case "abort": return Call.of(name, work());
            case "put": return Call.of(name, work(), store(), key(), among(-1, 10000, random.nextInt(10000)), number(), number());
            case "remove": return remove();
            case "get": return Call.of(name, work(), store(), key());
            case "count": return Call.of(name, work(), store(), key(), key());
            case "cursor": return Call.of(name, work(), store(), among(-2, 2, random.nextInt(3) - 1), among(-1, 4, random.nextInt(4)));
            case "step": return Call.of(name, cursor());
            default: return Call.of(name, cursor(), among(-1, 10000, random.nextInt(10000)));
        }
    }

    private Call remove() {
        int from = key();
        int to = random.nextInt(4) > 0 ? from : key();
        return Call.of("remove", work(), store(), from, to);
    }

    /** Mostly the right value, now and then one of the wrong ones. */
    private int among(int low, int high, int right) {
        int choice = random.nextInt(1000);
        if (choice >= wrongInThousand) {
            return right;
        }
        int[] wrong = {low, high, Integer.MIN_VALUE, Integer.MAX_VALUE};
        return wrong[choice % wrong.length];
    }

    private int tab() {
        return among(-1, 4, random.nextInt(4));
    }

    private int closedTab() {
        int tab = pick(i -> model.state(i) == 0, 4);
        return tab < 0 || random.nextInt(5) == 0 ? tab() : tab;
    }

    private int openTab() {
        int tab = pick(i -> model.state(i) == 1, 4);
        return tab < 0 || random.nextInt(10) == 0 ? tab() : tab;
    }

    private int wish() {
        int wish = model.version() + random.nextInt(3);
        return among(0, 101, random.nextInt(10) == 0 ? wish - 1 : wish);
    }

    private int store() {
        int store = pick(model::hasStore, 3);
        return among(-1, 3, store < 0 || random.nextInt(12) == 0 ? random.nextInt(3) : store);
    }

    private int scope() {
        int scope = 0;
        for (int store = 0; store < 3; store++) {
            scope |= model.hasStore(store) && random.nextInt(2) == 0 ? 1 << store : 0;
        }
        return among(0, 8, scope == 0 || random.nextInt(20) == 0 ? 1 + random.nextInt(7) : scope);
    }

    private int work() {
        int running = pick(i -> model.standing(i) == 1, model.transactions());
        int some = random.nextInt(model.transactions() + 1);
        return among(-1, model.transactions(), running < 0 || random.nextInt(10) == 0 ? some : running);
    }

    private int upgradeOrOther() {
        return model.upgrade() >= 0 && random.nextInt(12) > 0 ? model.upgrade() : work();
    }

    private int cursor() {
        int late = Math.max(0, model.cursors() - 1 - random.nextInt(4));
        return among(-1, model.cursors(), random.nextInt(10) == 0 ? random.nextInt(model.cursors() + 1) : late);
    }

    private int number() {
        return among(-2, 1000, random.nextInt(20) == 0 ? 999 : random.nextInt(numbers) - 1);
    }

    private int key() {
        if (random.nextInt(1000) < wrongInThousand) {
            return WRONG_KEYS[random.nextInt(WRONG_KEYS.length)];
        }
        return hasManyKeys && random.nextInt(5) > 0 ? random.nextInt(1000) : KEYS[random.nextInt(KEYS.length)];
    }
}
