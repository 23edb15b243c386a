/** The program itself behind the face. */
final class Program implements Face {
    private final TabStore store = new TabStore();

    @Override
    public int open(int tab, int version) {
        return store.open(tab, version);
    }

    @Override
    public int close(int tab) {
        return store.close(tab);
    }

    @Override
    public int state(int tab) {
        return store.state(tab);
    }

    @Override
    public int version() {
        return store.version();
    }

    @Override
    public int upgrade() {
        return store.upgrade();
    }

    @Override
    public void makeStore(int transaction, int made) {
        store.makeStore(transaction, made);
    }

    @Override
    public int deleteStore(int transaction, int deleted) {
        return store.deleteStore(transaction, deleted);
    }

    @Override
    public void makeIndex(int transaction, int indexed, int field, boolean isUnique) {
        store.makeIndex(transaction, indexed, field, isUnique);
    }

    @Override
    public int begin(int tab, int scope, boolean writes) {
        return store.begin(tab, scope, writes);
    }

    @Override
    public int standing(int transaction) {
        return store.standing(transaction);
    }

    @Override
    public int commit(int transaction) {
        return store.commit(transaction);
    }

    @Override
    public int abort(int transaction) {
        return store.abort(transaction);
    }

    @Override
    public boolean put(int transaction, int target, int key, int content, int first, int second) {
        return store.put(transaction, target, key, content, first, second);
    }

    @Override
    public int remove(int transaction, int target, int from, int to) {
        return store.remove(transaction, target, from, to);
    }

    @Override
    public int get(int transaction, int source, int key) {
        return store.get(transaction, source, key);
    }

    @Override
    public int count(int transaction, int source, int from, int to) {
        return store.count(transaction, source, from, to);
    }

    @Override
    public int cursor(int transaction, int source, int field, int direction) {
        return store.cursor(transaction, source, field, direction);
    }

    @Override
    public int step(int cursor) {
        return store.step(cursor);
    }

    @Override
    public int update(int cursor, int content) {
        return store.update(cursor, content);
    }
}
