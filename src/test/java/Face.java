/** The calls of TabStore, so that the program and the model can be asked alike. */
interface Face {
    int open(int tab, int version);

    int close(int tab);

    int state(int tab);

    int version();

    int upgrade();

    void makeStore(int transaction, int store);

    int deleteStore(int transaction, int store);

    void makeIndex(int transaction, int store, int field, boolean isUnique);

    int begin(int tab, int scope, boolean writes);

    int standing(int transaction);

    int commit(int transaction);

    int abort(int transaction);

    boolean put(int transaction, int store, int key, int content, int first, int second);

    int remove(int transaction, int store, int from, int to);

    int get(int transaction, int store, int key);

    int count(int transaction, int store, int from, int to);

    int cursor(int transaction, int store, int field, int direction);

    int step(int cursor);

    int update(int cursor, int content);
}
