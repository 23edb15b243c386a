import java.util.ArrayDeque;
import java.util.ArrayList;
import java.util.Comparator;
import java.util.Deque;
import java.util.List;
import java.util.Map;
import java.util.TreeMap;
import java.util.TreeSet;

/**
 * The document once more, held in another way than in the program: texts are texts,
 * an abort plays a log backward, and cursors look through lists of entries that are made anew each time.
 */
final class Model implements Face {
    private static final int CLOSED = 0;
    private static final int OPEN = 1;
    private static final int UPGRADING = 2;
    private static final int BLOCKED = 3;

    private record Key(int number) implements Comparable<Key> {
        static boolean exists(int number) {
            if (number < 0 || number > 3999999) {
                return false;
            }
            int value = number % 1000000;
            return switch (number / 1000000) {
                case 0, 1 -> value < 1000;
                case 2 -> new Key(number).text() != null;
                default -> true;
            };
        }

        String text() {
            String digits = String.valueOf(number % 1000000);
            if (digits.length() % 2 == 1) {
                digits = "0" + digits;
            }
            StringBuilder letters = new StringBuilder();
            for (int i = 0; i < digits.length(); i += 2) {
                int letter = Integer.parseInt(digits.substring(i, i + 2));
                if (letter < 1 || letter > 26) {
                    return null;
                }
                letters.append((char) ('a' + letter - 1));
            }
            return letters.toString();
        }

        @Override
        public int compareTo(Key other) {
            int kind = number / 1000000;
            int otherKind = other.number / 1000000;
            if (kind != otherKind) {
                return Integer.compare(kind, otherKind);
            }
            return kind == 2 ? text().compareTo(other.text()) : Integer.compare(number, other.number);
        }
    }

    private record Row(int content, int first, int second) {
        int number(int field) {
            return field == 0 ? first : second;
        }
    }

    private record Entry(int number, Key key) implements Comparable<Entry> {
        @Override
        public int compareTo(Entry other) {
            return Comparator.comparingInt(Entry::number).thenComparing(Entry::key).compare(this, other);
        }
    }

    private static final class Rows {
        TreeMap<Key, Row> byKey = new TreeMap<>();
        Map<Integer, Boolean> uniqueByField = new TreeMap<>();
    }

    private static final class Work {
        int tab;
        int scope;
        boolean writes;
        int standing;
        Deque<Runnable> undo = new ArrayDeque<>();
    }

    private static final class Walk {
        int transaction;
        int store;
        int field;
        int direction;
        Entry place;
        boolean isOver;
    }

    private final int[] states = new int[4];
    private final int[] wanted = new int[4];
    private List<Integer> blocked = new ArrayList<>();
    private final Rows[] stores = new Rows[3];
    private final List<Work> works = new ArrayList<>();
    private final List<Walk> walks = new ArrayList<>();
    private int version = 0;
    private int upgrade = -1;

    @Override
    public int open(int tab, int wish) {
        bounds(tab >= 0 && tab < 4);
        argument(wish >= 1 && wish <= 100);
        state(states[tab] == CLOSED && wish >= version);
        if (wish == version) {
            state(upgrade < 0);
            states[tab] = OPEN;
            return OPEN;
        }
        boolean isAlone = true;
        for (int other = 0; other < 4; other++) {
            isAlone &= other == tab || states[other] == CLOSED || states[other] == BLOCKED;
        }
        state(!isAlone || works.size() < 60);
        states[tab] = BLOCKED;
        wanted[tab] = wish;
        blocked.add(tab);
        lookAtBlocked();
        return states[tab];
    }

    @Override
    public int close(int tab) {
        bounds(tab >= 0 && tab < 4);
        state(states[tab] != CLOSED && !isStuckWithout(tab));
        int before = states[tab];
        for (int i = works.size() - 1; i >= 0; i--) {
            if (works.get(i).tab == tab && works.get(i).standing < 2) {
                undo(works.get(i));
                look();
            }
        }
        closeNow(tab);
        return before;
    }

    @Override
    public int state(int tab) {
        bounds(tab >= 0 && tab < 4);
        return states[tab];
    }

    @Override
    public int version() {
        return version;
    }

    @Override
    public int upgrade() {
        return upgrade;
    }

    @Override
    public void makeStore(int transaction, int store) {
        bounds(transaction >= 0 && transaction < works.size() && store >= 0 && store < 3);
        state(transaction == upgrade && stores[store] == null);
        stores[store] = new Rows();
        works.get(transaction).undo.push(() -> stores[store] = null);
    }

    @Override
    public int deleteStore(int transaction, int store) {
        work(transaction, store);
        state(transaction == upgrade);
        Rows old = stores[store];
        stores[store] = null;
        works.get(transaction).undo.push(() -> stores[store] = old);
        return old.byKey.size();
    }

    @Override
    public void makeIndex(int transaction, int store, int field, boolean isUnique) {
        work(transaction, store);
        bounds(field == 0 || field == 1);
        Rows rows = stores[store];
        state(transaction == upgrade && !rows.uniqueByField.containsKey(field));
        TreeSet<Integer> seen = new TreeSet<>();
        for (Row row : rows.byKey.values()) {
            state(!isUnique || row.number(field) < 0 || seen.add(row.number(field)));
        }
        rows.uniqueByField.put(field, isUnique);
        works.get(transaction).undo.push(() -> rows.uniqueByField.remove(field));
    }

    @Override
    public int begin(int tab, int scope, boolean writes) {
        bounds(tab >= 0 && tab < 4);
        for (int store = 0; store < 3; store++) {
            bounds(scope < 1 || scope > 7 || (scope & 1 << store) == 0 || stores[store] != null);
        }
        argument(scope >= 1 && scope <= 7);
        state(states[tab] == OPEN && works.size() < 60);
        add(tab, scope, writes);
        look();
        return works.size() - 1;
    }

    @Override
    public int standing(int transaction) {
        bounds(transaction >= 0 && transaction < works.size());
        return works.get(transaction).standing;
    }

    @Override
    public int commit(int transaction) {
        bounds(transaction >= 0 && transaction < works.size());
        Work work = works.get(transaction);
        state(work.standing == 1);
        work.standing = 2;
        if (transaction == upgrade) {
            upgrade = -1;
            version = wanted[work.tab];
            states[work.tab] = OPEN;
        }
        return look();
    }

    @Override
    public int abort(int transaction) {
        bounds(transaction >= 0 && transaction < works.size());
        Work work = works.get(transaction);
        state(work.standing < 2);
        state(transaction != upgrade || !isStuckWithout(work.tab));
        undo(work);
        int freed = look();
        if (transaction == upgrade) {
            closeNow(work.tab);
        }
        return freed;
    }

    @Override
    public boolean put(int transaction, int store, int number, int content, int first, int second) {
        Work work = work(transaction, store);
        argument(Key.exists(number) && content >= 0 && content <= 9999);
        argument(first >= -1 && first <= 999 && second >= -1 && second <= 999);
        state(work.standing == 1 && work.writes && (work.scope & 1 << store) != 0);
        Key key = new Key(number);
        Row row = new Row(content, first, second);
        Rows rows = stores[store];
        int all = 0;
        for (Rows any : stores) {
            all += any == null ? 0 : any.byKey.size();
        }
        state(rows.byKey.containsKey(key) || all < 40);
        for (Map.Entry<Key, Row> other : rows.byKey.entrySet()) {
            for (int field = 0; field < 2; field++) {
                boolean isSame = row.number(field) >= 0 && row.number(field) == other.getValue().number(field);
                boolean isUnique = rows.uniqueByField.getOrDefault(field, false);
                state(!isSame || !isUnique || other.getKey().equals(key));
            }
        }
        return set(work, rows, key, row) == null;
    }

    @Override
    public int remove(int transaction, int store, int from, int to) {
        Work work = work(transaction, store);
        argument(Key.exists(from) && Key.exists(to));
        state(work.standing == 1 && work.writes && (work.scope & 1 << store) != 0);
        List<Key> keys = between(store, from, to);
        for (Key key : keys) {
            set(work, stores[store], key, null);
        }
        return keys.size();
    }

    @Override
    public int get(int transaction, int store, int key) {
        Work work = work(transaction, store);
        argument(Key.exists(key));
        state(work.standing == 1 && (work.scope & 1 << store) != 0);
        Row row = stores[store].byKey.get(new Key(key));
        return row == null ? -1 : row.content();
    }

    @Override
    public int count(int transaction, int store, int from, int to) {
        Work work = work(transaction, store);
        argument(Key.exists(from) && Key.exists(to));
        state(work.standing == 1 && (work.scope & 1 << store) != 0);
        return between(store, from, to).size();
    }

    @Override
    public int cursor(int transaction, int store, int field, int direction) {
        Work work = work(transaction, store);
        bounds(field >= -1 && field <= 1);
        argument(direction >= 0 && direction <= 3);
        state(work.standing == 1 && (work.scope & 1 << store) != 0);
        state(field < 0 || stores[store].uniqueByField.containsKey(field));
        state(walks.size() < 40);
        Walk walk = new Walk();
        walk.transaction = transaction;
        walk.store = store;
        walk.field = field;
        walk.direction = direction;
        walks.add(walk);
        return walks.size() - 1;
    }

    @Override
    public int step(int cursor) {
        bounds(cursor >= 0 && cursor < walks.size());
        Walk walk = walks.get(cursor);
        state(works.get(walk.transaction).standing == 1 && stores[walk.store] != null && !walk.isOver);
        for (Entry entry : entries(walk)) {
            if (isBehind(walk, entry)) {
                walk.place = entry;
                return entry.key().number();
            }
        }
        walk.isOver = true;
        return -1;
    }

    @Override
    public int update(int cursor, int content) {
        bounds(cursor >= 0 && cursor < walks.size());
        argument(content >= 0 && content <= 9999);
        Walk walk = walks.get(cursor);
        Work work = works.get(walk.transaction);
        state(work.standing == 1 && work.writes && walk.place != null && !walk.isOver);
        Rows rows = stores[walk.store];
        state(rows != null && rows.byKey.containsKey(walk.place.key()));
        Row old = rows.byKey.get(walk.place.key());
        set(work, rows, walk.place.key(), new Row(content, old.first(), old.second()));
        return old.content();
    }

    /** What the makers of random runs look at, beside the answers of the calls. */
    int transactions() {
        return works.size();
    }

    int cursors() {
        return walks.size();
    }

    boolean hasStore(int store) {
        return stores[store] != null;
    }

    private static void bounds(boolean isRight) {
        if (!isRight) {
            throw new IndexOutOfBoundsException();
        }
    }

    private static void argument(boolean isRight) {
        if (!isRight) {
            throw new IllegalArgumentException();
        }
    }

    private static void state(boolean isRight) {
        if (!isRight) {
            throw new IllegalStateException();
        }
    }

    private Work work(int transaction, int store) {
        bounds(transaction >= 0 && transaction < works.size());
        bounds(store >= 0 && store < 3 && stores[store] != null);
        return works.get(transaction);
    }

    private Work add(int tab, int scope, boolean writes) {
        Work work = new Work();
        work.tab = tab;
        work.scope = scope;
        work.writes = writes;
        works.add(work);
        return work;
    }

    private void undo(Work work) {
        while (!work.undo.isEmpty()) {
            work.undo.pop().run();
        }
        work.standing = 3;
    }

    private int look() {
        int freed = 0;
        for (int i = 0; i < works.size(); i++) {
            Work late = works.get(i);
            boolean isFree = late.standing == 0;
            for (Work early : works.subList(0, i)) {
                boolean isConflict = (early.scope & late.scope) != 0 && (early.writes || late.writes);
                isFree &= early.standing > 1 || !isConflict;
            }
            if (isFree) {
                late.standing = 1;
                freed++;
            }
        }
        return freed;
    }

    private void closeNow(int tab) {
        if (states[tab] == UPGRADING) {
            upgrade = -1;
        }
        states[tab] = CLOSED;
        blocked.remove(Integer.valueOf(tab));
        lookAtBlocked();
    }

    private void lookAtBlocked() {
        while (!blocked.isEmpty() && !isBusyWithout(-1)) {
            int tab = blocked.remove(0);
            if (wanted[tab] > version) {
                states[tab] = UPGRADING;
                upgrade = works.size();
                add(tab, 7, true).standing = 1;
            } else {
                states[tab] = CLOSED;
            }
        }
    }

    private boolean isBusyWithout(int tab) {
        for (int other = 0; other < 4; other++) {
            if (other != tab && (states[other] == OPEN || states[other] == UPGRADING)) {
                return true;
            }
        }
        return false;
    }

    private boolean isStuckWithout(int tab) {
        boolean begins = !isBusyWithout(tab)
                && blocked.stream().anyMatch(other -> other != tab && wanted[other] > version);
        return begins && works.size() == 60;
    }

    private static Row set(Work work, Rows rows, Key key, Row row) {
        Row old = row == null ? rows.byKey.remove(key) : rows.byKey.put(key, row);
        work.undo.push(() -> {
            if (old == null) {
                rows.byKey.remove(key);
            } else {
                rows.byKey.put(key, old);
            }
        });
        return old;
    }

    private List<Key> between(int store, int from, int to) {
        Key low = new Key(from);
        Key high = new Key(to);
        if (low.compareTo(high) > 0) {
            return List.of();
        }
        return new ArrayList<>(stores[store].byKey.subMap(low, true, high, true).keySet());
    }

    private List<Entry> entries(Walk walk) {
        TreeSet<Entry> entries = new TreeSet<>();
        for (Map.Entry<Key, Row> row : stores[walk.store].byKey.entrySet()) {
            int number = walk.field < 0 ? 0 : row.getValue().number(walk.field);
            if (number >= 0) {
                entries.add(new Entry(number, row.getKey()));
            }
        }
        List<Entry> list = new ArrayList<>();
        for (Entry entry : entries) {
            boolean isDouble = !list.isEmpty() && list.get(list.size() - 1).number() == entry.number();
            if (!isDouble || walk.direction < 2 || walk.field < 0) {
                list.add(entry);
            }
        }
        if (walk.direction % 2 == 1) {
            list.sort(Comparator.reverseOrder());
        }
        return list;
    }

    private static boolean isBehind(Walk walk, Entry entry) {
        if (walk.place == null) {
            return true;
        }
        int order = walk.direction % 2 == 0 ? entry.compareTo(walk.place) : walk.place.compareTo(entry);
        boolean skips = walk.direction >= 2 && walk.field >= 0;
        return order > 0 && (!skips || entry.number() != walk.place.number());
    }
}
