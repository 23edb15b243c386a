import java.util.ArrayList;
import java.util.List;

/** The object store of a browser, as ../shared/DOC.md promises it. */
public final class TabStore {
    private static final int TABS = 4;
    private static final int STORES = 3;
    private static final int FIELDS = 2;
    private static final int ALL_STORES = 7;
    private static final int MAX_VERSION = 100;
    private static final int MAX_TRANSACTIONS = 60;
    private static final int MAX_CURSORS = 40;
    private static final int MAX_ROWS = 40;
    private static final int MAX_CONTENT = 9999;
    private static final int MAX_NUMBER = 999;
    private static final int MAX_DIRECTION = 3;
    private static final int BY_KEYS = -1;
    private static final int NONE = -1;

    private final Tab[] tabs = new Tab[TABS];
    private final Store[] stores = new Store[STORES];
    // One copy a store is enough: no two running transactions write to the same store.
    private final Store[] copies = new Store[STORES];
    private final List<Transaction> transactions = new ArrayList<>();
    private final List<Cursor> cursors = new ArrayList<>();
    private int databaseVersion = 0;
    private int runningUpgrade = NONE;
    private int turns = 0;

    public TabStore() {
        for (int i = 0; i < tabs.length; i++) {
            tabs[i] = new Tab();
        }
        for (int i = 0; i < stores.length; i++) {
            stores[i] = new Store();
        }
        for (int i = 0; i < copies.length; i++) {
            copies[i] = new Store();
        }
    }

    // ---- tabs and upgrades

    public int open(int tab, int version)
            throws IndexOutOfBoundsException, IllegalArgumentException, IllegalStateException {
        Tab opened = tabAt(tab);
        requireInRange(version, 1, MAX_VERSION);
        if (!canOpen(opened, version)) {
            throw new IllegalStateException("the tab cannot open at this version now");
        }
        if (version == databaseVersion) {
            opened.condition = Tab.OPEN;
        } else {
            opened.condition = Tab.BLOCKED;
            opened.wanted = version;
            opened.turn = turns;
            turns++;
            beginDueUpgrade();
        }
        return opened.condition;
    }

    public int close(int tab) throws IndexOutOfBoundsException, IllegalStateException {
        Tab closed = tabAt(tab);
        if (closed.condition == Tab.CLOSED || !hasRoomAfter(closed)) {
            throw new IllegalStateException("the tab cannot be closed now");
        }
        int before = closed.condition;
        for (int i = transactions.size() - 1; i >= 0; i--) {
            Transaction transaction = transactions.get(i);
            if (transaction.tab == closed && transaction.isPending()) {
                giveUp(transaction);
            }
        }
        runFreed();
        leave(closed);
        return before;
    }

    public int state(int tab) throws IndexOutOfBoundsException {
        return tabAt(tab).condition;
    }

    public int version() {
        return databaseVersion;
    }

    public int upgrade() {
        return runningUpgrade;
    }

    public void makeStore(int transaction, int store)
            throws IndexOutOfBoundsException, IllegalStateException {
        transactionAt(transaction);
        if (store < 0 || store >= stores.length) {
            throw new IndexOutOfBoundsException("there is no place for such a store");
        }
        requireUpgrade(transaction);
        Store made = stores[store];
        if (made.isThere) {
            throw new IllegalStateException("the store is there");
        }
        made.isThere = true;
    }

    public int deleteStore(int transaction, int store)
            throws IndexOutOfBoundsException, IllegalStateException {
        transactionAt(transaction);
        Store deleted = storeAt(store);
        requireUpgrade(transaction);
        int rows = deleted.size();
        deleted.wipe();
        return rows;
    }

    public void makeIndex(int transaction, int store, int field, boolean isUnique)
            throws IndexOutOfBoundsException, IllegalStateException {
        transactionAt(transaction);
        Store indexed = storeAt(store);
        if (field < 0 || field >= FIELDS) {
            throw new IndexOutOfBoundsException("there is no such field");
        }
        requireUpgrade(transaction);
        if (indexed.hasIndex(field) || (isUnique && indexed.hasDoubles(field))) {
            throw new IllegalStateException("the index cannot be made");
        }
        indexed.addIndex(field, isUnique);
    }

    // ---- transactions

    public int begin(int tab, int scope, boolean writes)
            throws IndexOutOfBoundsException, IllegalArgumentException, IllegalStateException {
        Tab owner = tabAt(tab);
        if (scope >= 1 && scope <= ALL_STORES && !areThere(scope)) {
            throw new IndexOutOfBoundsException("a store of the scope is not there");
        }
        requireInRange(scope, 1, ALL_STORES);
        if (owner.condition != Tab.OPEN || !hasRoom()) {
            throw new IllegalStateException("no transaction can begin now");
        }
        int number = transactions.size();
        transactions.add(new Transaction(owner, scope, writes));
        runFreed();
        return number;
    }

    public int standing(int transaction) throws IndexOutOfBoundsException {
        return transactionAt(transaction).phase;
    }

    public int commit(int transaction) throws IndexOutOfBoundsException, IllegalStateException {
        Transaction committed = transactionAt(transaction);
        requireRunning(committed);
        committed.phase = Transaction.COMMITTED;
        if (transaction == runningUpgrade) {
            runningUpgrade = NONE;
            databaseVersion = committed.tab.wanted;
            committed.tab.condition = Tab.OPEN;
        }
        return runFreed();
    }

    public int abort(int transaction) throws IndexOutOfBoundsException, IllegalStateException {
        Transaction aborted = transactionAt(transaction);
        boolean isUpgrade = transaction == runningUpgrade;
        if (!aborted.isPending() || (isUpgrade && !hasRoomAfter(aborted.tab))) {
            throw new IllegalStateException("the transaction cannot be aborted now");
        }
        giveUp(aborted);
        int freed = runFreed();
        if (isUpgrade) {
            leave(aborted.tab);
        }
        return freed;
    }

    // ---- rows

    public boolean put(int transaction, int store, int key, int content, int first, int second)
            throws IndexOutOfBoundsException, IllegalArgumentException, IllegalStateException {
        Transaction writer = transactionAt(transaction);
        Store target = storeAt(store);
        requireKey(key);
        requireInRange(content, 0, MAX_CONTENT);
        requireInRange(first, NONE, MAX_NUMBER);
        requireInRange(second, NONE, MAX_NUMBER);
        requireWriting(writer, store);
        Row row = new Row(key, content, first, second);
        boolean isNew = target.find(key) == null;
        if (target.clashes(row) || (isNew && rowsInAll() >= MAX_ROWS)) {
            throw new IllegalStateException("the row cannot be put");
        }
        target.set(row);
        return isNew;
    }

    public int remove(int transaction, int store, int from, int to)
            throws IndexOutOfBoundsException, IllegalArgumentException, IllegalStateException {
        Transaction writer = transactionAt(transaction);
        Store target = storeAt(store);
        requireKey(from);
        requireKey(to);
        requireWriting(writer, store);
        return target.removeBetween(from, to);
    }

    public int get(int transaction, int store, int key)
            throws IndexOutOfBoundsException, IllegalArgumentException, IllegalStateException {
        Transaction reader = transactionAt(transaction);
        Store source = storeAt(store);
        requireKey(key);
        requireReading(reader, store);
        Row row = source.find(key);
        return row == null ? NONE : row.content;
    }

    public int count(int transaction, int store, int from, int to)
            throws IndexOutOfBoundsException, IllegalArgumentException, IllegalStateException {
        Transaction reader = transactionAt(transaction);
        Store source = storeAt(store);
        requireKey(from);
        requireKey(to);
        requireReading(reader, store);
        return source.countBetween(from, to);
    }

    // ---- cursors

    public int cursor(int transaction, int store, int field, int direction)
            throws IndexOutOfBoundsException, IllegalArgumentException, IllegalStateException {
        Transaction reader = transactionAt(transaction);
        Store source = storeAt(store);
        if (field != BY_KEYS && (field < 0 || field >= FIELDS)) {
            throw new IndexOutOfBoundsException("there is no such field");
        }
        requireInRange(direction, 0, MAX_DIRECTION);
        requireReading(reader, store);
        if ((field != BY_KEYS && !source.hasIndex(field)) || cursors.size() >= MAX_CURSORS) {
            throw new IllegalStateException("the cursor cannot be made");
        }
        int number = cursors.size();
        cursors.add(new Cursor(reader, source, field, direction));
        return number;
    }

    public int step(int cursor) throws IndexOutOfBoundsException, IllegalStateException {
        Cursor stepped = cursorAt(cursor);
        requireRunning(stepped.transaction);
        if (!stepped.store.isThere || stepped.phase == Cursor.OVER) {
            throw new IllegalStateException("the cursor cannot step now");
        }
        Row row = stepped.nextRow();
        stepped.moveTo(row);
        return row == null ? NONE : row.key;
    }

    public int update(int cursor, int content)
            throws IndexOutOfBoundsException, IllegalArgumentException, IllegalStateException {
        Cursor updating = cursorAt(cursor);
        requireInRange(content, 0, MAX_CONTENT);
        requireRunning(updating.transaction);
        if (!updating.transaction.writes || updating.phase != Cursor.AT_PLACE) {
            throw new IllegalStateException("the cursor cannot update now");
        }
        Row row = updating.store.find(updating.key);
        if (row == null) {
            throw new IllegalStateException("the row is not there any more");
        }
        updating.store.set(new Row(row.key, content, row.first, row.second));
        return row.content;
    }

    // ---- what a call asks for, or its exception

    private Tab tabAt(int number) {
        if (number < 0 || number >= tabs.length) {
            throw new IndexOutOfBoundsException("there is no such tab");
        }
        return tabs[number];
    }

    private Transaction transactionAt(int number) {
        if (number < 0 || number >= transactions.size()) {
            throw new IndexOutOfBoundsException("there is no such transaction");
        }
        return transactions.get(number);
    }

    private Store storeAt(int number) {
        if (number < 0 || number >= stores.length || !stores[number].isThere) {
            throw new IndexOutOfBoundsException("there is no such store");
        }
        return stores[number];
    }

    private Cursor cursorAt(int number) {
        if (number < 0 || number >= cursors.size()) {
            throw new IndexOutOfBoundsException("there is no such cursor");
        }
        return cursors.get(number);
    }

    private static void requireInRange(int value, int least, int greatest) {
        if (value < least || value > greatest) {
            throw new IllegalArgumentException("an argument is out of range");
        }
    }

    private static void requireKey(int key) {
        if (!Keys.isKey(key)) {
            throw new IllegalArgumentException("this number tells no key");
        }
    }

    private void requireUpgrade(int transaction) {
        if (transaction != runningUpgrade) {
            throw new IllegalStateException("the transaction is not the upgrade that is running");
        }
    }

    private static void requireRunning(Transaction transaction) {
        if (transaction.phase != Transaction.RUNNING) {
            throw new IllegalStateException("the transaction is not running");
        }
    }

    private static void requireReading(Transaction transaction, int store) {
        requireRunning(transaction);
        if (!transaction.hasInScope(store)) {
            throw new IllegalStateException("the store is not in the scope");
        }
    }

    private static void requireWriting(Transaction transaction, int store) {
        requireReading(transaction, store);
        if (!transaction.writes) {
            throw new IllegalStateException("the transaction does not write");
        }
    }

    // ---- how tabs and upgrades follow each other

    private boolean canOpen(Tab tab, int version) {
        if (tab.condition != Tab.CLOSED || version < databaseVersion) {
            return false;
        }
        if (version == databaseVersion) {
            return runningUpgrade == NONE;
        }
        return hasRoom() || upgradesMustWait();
    }

    private boolean upgradesMustWait() {
        for (int i = 0; i < tabs.length; i++) {
            if (tabs[i].isInside()) {
                return true;
            }
        }
        return false;
    }

    private boolean hasRoom() {
        return transactions.size() < MAX_TRANSACTIONS;
    }

    private boolean hasRoomAfter(Tab closing) {
        return hasRoom() || !upgradeFollows(closing);
    }

    private boolean upgradeFollows(Tab closing) {
        boolean follows = false;
        for (int i = 0; i < tabs.length; i++) {
            Tab other = tabs[i];
            if (other != closing && other.isInside()) {
                return false;
            }
            if (other != closing && other.condition == Tab.BLOCKED && other.wanted > databaseVersion) {
                follows = true;
            }
        }
        return follows;
    }

    private void leave(Tab tab) {
        if (tab.condition == Tab.UPGRADING) {
            runningUpgrade = NONE;
        }
        tab.condition = Tab.CLOSED;
        beginDueUpgrade();
    }

    private void beginDueUpgrade() {
        for (int i = 0; i < tabs.length && !upgradesMustWait(); i++) {
            Tab next = firstBlocked();
            if (next == null) {
                return;
            }
            if (next.wanted > databaseVersion) {
                beginUpgrade(next);
            } else {
                next.condition = Tab.CLOSED;
            }
        }
    }

    private Tab firstBlocked() {
        Tab first = null;
        for (int i = 0; i < tabs.length; i++) {
            Tab tab = tabs[i];
            if (tab.condition == Tab.BLOCKED && (first == null || tab.turn < first.turn)) {
                first = tab;
            }
        }
        return first;
    }

    private void beginUpgrade(Tab tab) {
        tab.condition = Tab.UPGRADING;
        runningUpgrade = transactions.size();
        Transaction begun = new Transaction(tab, ALL_STORES, true);
        transactions.add(begun);
        run(begun);
    }

    // ---- how transactions follow each other

    /** Lets all transactions run that need not wait any more, and tells how many. */
    private int runFreed() {
        int freed = 0;
        for (int i = 0; i < transactions.size(); i++) {
            Transaction transaction = transactions.get(i);
            if (transaction.phase == Transaction.WAITING && !mustWait(transaction)) {
                run(transaction);
                freed++;
            }
        }
        return freed;
    }

    private boolean mustWait(Transaction waiting) {
        for (int i = 0; i < transactions.size(); i++) {
            Transaction earlier = transactions.get(i);
            if (earlier == waiting) {
                return false;
            }
            if (earlier.isPending() && earlier.conflictsWith(waiting)) {
                return true;
            }
        }
        return false;
    }

    private void run(Transaction transaction) {
        transaction.phase = Transaction.RUNNING;
        if (transaction.writes) {
            copyScope(transaction, stores, copies);
        }
    }

    private void giveUp(Transaction transaction) {
        if (transaction.phase == Transaction.RUNNING && transaction.writes) {
            copyScope(transaction, copies, stores);
        }
        transaction.phase = Transaction.ABORTED;
    }

    private static void copyScope(Transaction transaction, Store[] from, Store[] to) {
        for (int i = 0; i < from.length && i < to.length; i++) {
            if (transaction.hasInScope(i)) {
                to[i].takeOver(from[i]);
            }
        }
    }

    private boolean areThere(int scope) {
        for (int i = 0; i < stores.length; i++) {
            if ((scope >> i & 1) == 1 && !stores[i].isThere) {
                return false;
            }
        }
        return true;
    }

    private int rowsInAll() {
        int rows = 0;
        for (int i = 0; i < stores.length; i++) {
            rows += stores[i].size();
        }
        return rows;
    }

    /** What numbers tell keys, and how these are ordered. */
    private static final class Keys {
        static final int KIND = 1000000;
        static final int KINDS = 4;
        private static final int TEXT = 2;
        private static final int PAIR = 3;
        private static final int LETTER = 100;
        private static final int LETTERS = 26;

        static boolean isKey(int number) {
            if (number < 0 || number >= KINDS * KIND) {
                return false;
            }
            int kind = number / KIND;
            int value = number % KIND;
            if (kind == TEXT) {
                return isText(value);
            }
            return kind == PAIR || value <= MAX_NUMBER;
        }

        private static boolean isText(int value) {
            int last = value % LETTER;
            int middle = value / LETTER % LETTER;
            int first = value / LETTER / LETTER;
            boolean isShort = middle == 0 && first == 0;
            return isLetter(last) && (isLetter(middle) || isShort) && (isLetter(first) || first == 0);
        }

        private static boolean isLetter(int digits) {
            return digits >= 1 && digits <= LETTERS;
        }

        /** A number that is less the further ahead the key is in the order of keys. */
        static int rank(int key) {
            int value = key % KIND;
            if (key / KIND != TEXT) {
                return key;
            }
            // A text is filled up with nothings behind, so that its beginnings come ahead of it.
            if (value < LETTER) {
                value *= LETTER;
            }
            if (value < LETTER * LETTER) {
                value *= LETTER;
            }
            return TEXT * KIND + value;
        }
    }

    private static final class Row {
        // The places of one number: as many as there are ranks of keys.
        static final long NUMBER_SPAN = (long) Keys.KINDS * Keys.KIND;
        static final long BEHIND_ALL = (MAX_NUMBER + 1) * NUMBER_SPAN;

        final int key;
        final int content;
        final int first;
        final int second;

        Row(int key, int content, int first, int second) {
            this.key = key;
            this.content = content;
            this.first = first;
            this.second = second;
        }

        int number(int field) {
            return field == 0 ? first : second;
        }

        boolean isBetween(int from, int to) {
            int rank = Keys.rank(key);
            return rank >= Keys.rank(from) && rank <= Keys.rank(to);
        }

        /** Where the row's entry is among all entries, -1 if it has none. */
        long place(int field) {
            if (field == BY_KEYS) {
                return Keys.rank(key);
            }
            int number = number(field);
            return number == NONE ? NONE : number * NUMBER_SPAN + Keys.rank(key);
        }

        static long startOfNumber(long place) {
            return place - place % NUMBER_SPAN;
        }
    }

    private static final class Store {
        private static final int NO_INDEX = 0;
        private static final int PLAIN_INDEX = 1;
        private static final int UNIQUE_INDEX = 2;

        boolean isThere = false;
        private final int[] indexes = new int[FIELDS];
        private final List<Row> rows = new ArrayList<>();

        int size() {
            return rows.size();
        }

        void wipe() {
            isThere = false;
            rows.clear();
            for (int i = 0; i < indexes.length; i++) {
                indexes[i] = NO_INDEX;
            }
        }

        void takeOver(Store other) {
            isThere = other.isThere;
            for (int i = 0; i < indexes.length && i < other.indexes.length; i++) {
                indexes[i] = other.indexes[i];
            }
            rows.clear();
            for (int i = 0; i < other.rows.size(); i++) {
                rows.add(other.rows.get(i));
            }
        }

        boolean hasIndex(int field) {
            return field >= 0 && field < indexes.length && indexes[field] != NO_INDEX;
        }

        void addIndex(int field, boolean isUnique) {
            if (field >= 0 && field < indexes.length) {
                indexes[field] = isUnique ? UNIQUE_INDEX : PLAIN_INDEX;
            }
        }

        boolean hasDoubles(int field) {
            for (int i = 0; i < rows.size(); i++) {
                if (isTaken(field, rows.get(i))) {
                    return true;
                }
            }
            return false;
        }

        boolean clashes(Row row) {
            for (int i = 0; i < indexes.length; i++) {
                if (indexes[i] == UNIQUE_INDEX && isTaken(i, row)) {
                    return true;
                }
            }
            return false;
        }

        private boolean isTaken(int field, Row row) {
            int number = row.number(field);
            if (number == NONE) {
                return false;
            }
            for (int i = 0; i < rows.size(); i++) {
                Row other = rows.get(i);
                if (other.key != row.key && other.number(field) == number) {
                    return true;
                }
            }
            return false;
        }

        Row find(int key) {
            for (int i = 0; i < rows.size(); i++) {
                Row row = rows.get(i);
                if (row.key == key) {
                    return row;
                }
            }
            return null;
        }

        void set(Row row) {
            for (int i = 0; i < rows.size(); i++) {
                if (rows.get(i).key == row.key) {
                    rows.set(i, row);
                    return;
                }
            }
            rows.add(row);
        }

        int countBetween(int from, int to) {
            int counted = 0;
            for (int i = 0; i < rows.size(); i++) {
                if (rows.get(i).isBetween(from, to)) {
                    counted++;
                }
            }
            return counted;
        }

        int removeBetween(int from, int to) {
            int removed = 0;
            for (int i = rows.size() - 1; i >= 0; i--) {
                if (rows.get(i).isBetween(from, to)) {
                    rows.remove(i);
                    removed++;
                }
            }
            return removed;
        }

        /** The row with the lowest place that is not below the limit, null if there is none. */
        Row firstFrom(int field, long limit) {
            Row best = null;
            for (int i = 0; i < rows.size(); i++) {
                Row row = rows.get(i);
                long place = row.place(field);
                if (place >= limit && (best == null || place < best.place(field))) {
                    best = row;
                }
            }
            return best;
        }

        /** The row with the highest place that is below the limit, null if there is none. */
        Row lastBelow(int field, long limit) {
            Row best = null;
            for (int i = 0; i < rows.size(); i++) {
                Row row = rows.get(i);
                long place = row.place(field);
                if (place >= 0 && place < limit && (best == null || place > best.place(field))) {
                    best = row;
                }
            }
            return best;
        }
    }

    private static final class Tab {
        static final int CLOSED = 0;
        static final int OPEN = 1;
        static final int UPGRADING = 2;
        static final int BLOCKED = 3;

        int condition = CLOSED;
        int wanted = 0;
        int turn = 0;

        boolean isInside() {
            return condition == OPEN || condition == UPGRADING;
        }
    }

    private static final class Transaction {
        static final int WAITING = 0;
        static final int RUNNING = 1;
        static final int COMMITTED = 2;
        static final int ABORTED = 3;

        final Tab tab;
        final boolean writes;
        private final int scope;
        int phase = WAITING;

        Transaction(Tab tab, int scope, boolean writes) {
            this.tab = tab;
            this.scope = scope;
            this.writes = writes;
        }

        boolean isPending() {
            return phase == WAITING || phase == RUNNING;
        }

        boolean hasInScope(int store) {
            return (scope >> store & 1) == 1;
        }

        boolean conflictsWith(Transaction other) {
            return (scope & other.scope) != 0 && (writes || other.writes);
        }
    }

    private static final class Cursor {
        static final int AHEAD = 0;
        static final int AT_PLACE = 1;
        static final int OVER = 2;

        final Transaction transaction;
        // A store that is deleted and made anew is the same object, so the cursor goes on in it.
        final Store store;
        private final int field;
        private final boolean isBackward;
        private final boolean skipsDoubles;
        int phase = AHEAD;
        int key = 0;
        private long place = 0;

        Cursor(Transaction transaction, Store store, int field, int direction) {
            this.transaction = transaction;
            this.store = store;
            this.field = field;
            this.isBackward = direction == 1 || direction == 3;
            this.skipsDoubles = direction >= 2 && field != BY_KEYS;
        }

        Row nextRow() {
            return isBackward ? nextBackward() : nextForward();
        }

        private Row nextForward() {
            if (phase == AHEAD) {
                return store.firstFrom(field, 0);
            }
            long next = skipsDoubles ? Row.startOfNumber(place) + Row.NUMBER_SPAN : place + 1;
            return store.firstFrom(field, next);
        }

        private Row nextBackward() {
            long limit = Row.BEHIND_ALL;
            if (phase != AHEAD) {
                limit = skipsDoubles ? Row.startOfNumber(place) : place;
            }
            Row last = store.lastBelow(field, limit);
            if (last == null || !skipsDoubles) {
                return last;
            }
            // Of the rows with this number the one with the lowest key is the entry.
            return store.firstFrom(field, Row.startOfNumber(last.place(field)));
        }

        void moveTo(Row row) {
            if (row == null) {
                phase = OVER;
            } else {
                phase = AT_PLACE;
                key = row.key;
                place = row.place(field);
            }
        }
    }
}
