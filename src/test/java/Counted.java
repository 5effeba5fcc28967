/**
 * A LogKeepers of which no test asks more than the document promises: behind its 512th call answers are free, so a
 * test that goes on is wrong itself, and is stopped.
 */
final class Counted {
    static final int CALLS = 512;

    private final LogKeepers it = new LogKeepers();
    private int used;

    int left() {
        return CALLS - used;
    }

    private LogKeepers use() {
        used++;
        if (used > CALLS) {
            throw new IllegalStateException("a test made more than " + CALLS + " calls of one object");
        }
        return it;
    }

    int feed(int a, int b, int c, int d, int e) {
        return use().feed(a, b, c, d, e);
    }

    int end(int n) {
        return use().end(n);
    }

    int keepers() {
        return use().keepers();
    }

    int fault(int what) {
        return use().fault(what);
    }

    int ask(int keeper) {
        return use().ask(keeper);
    }

    int deliver(int slot) {
        return use().deliver(slot);
    }

    int drop(int slot) {
        return use().drop(slot);
    }

    int twice(int slot) {
        return use().twice(slot);
    }

    boolean fall(int keeper) {
        return use().fall(keeper);
    }

    boolean rise(int keeper) {
        return use().rise(keeper);
    }

    int command(int keeper, int client, int number, int what, int cell, int value) {
        return use().command(keeper, client, number, what, cell, value);
    }

    int append(int keeper, int to) {
        return use().append(keeper, to);
    }

    int fold(int keeper, int entry) {
        return use().fold(keeper, entry);
    }

    int read(int keeper, int cell) {
        return use().read(keeper, cell);
    }

    int good(int read) {
        return use().good(read);
    }

    int keeper(int keeper, int what) {
        return use().keeper(keeper, what);
    }

    int entry(int keeper, int entry, int what) {
        return use().entry(keeper, entry, what);
    }

    int state(int keeper, int cell) {
        return use().state(keeper, cell);
    }

    int client(int keeper, int client, int what) {
        return use().client(keeper, client, what);
    }

    int peer(int keeper, int other, int what) {
        return use().peer(keeper, other, what);
    }

    int slot(int slot, int what) {
        return use().slot(slot, what);
    }

    int note(int begun, int ended, int what, int value, int answer) {
        return use().note(begun, ended, what, value, answer);
    }

    int hush() {
        return use().hush();
    }

    int judge() {
        return use().judge();
    }

    int order(int i) {
        return use().order(i);
    }

    int image(int box) {
        return use().image(box);
    }

    int back(int box) {
        return use().back(box);
    }

    int about(int what) {
        return use().about(what);
    }
}
