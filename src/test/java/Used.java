/** A MeshedPages that is used for at most 512 calls: what later calls answer is free, so that no test may ask them. */
final class Used {
    static final int NONE = MeshedPages.NONE;

    private final MeshedPages pages = new MeshedPages();
    private int calls = 0;

    private MeshedPages used() {
        calls++;
        if (calls == 513) {
            Due.is("calls of one object", calls, 512);
        }
        return pages;
    }

    int left() {
        return 512 - calls;
    }

    int feed(int a, int b, int c, int d, int e) {
        return used().feed(a, b, c, d, e);
    }

    int end(int n) {
        return used().end(n);
    }

    int text() {
        return used().text();
    }

    int fault(int what) {
        return used().fault(what);
    }

    boolean by(int text) {
        return used().by(text);
    }

    int give(int value) {
        return used().give(value);
    }

    int free(int address) {
        return used().free(address);
    }

    boolean write(int address, int value) {
        return used().write(address, value);
    }

    int mesh(int a, int b) {
        return used().mesh(a, b);
    }

    int fence(int a, int b) {
        return used().fence(a, b);
    }

    int move() {
        return used().move();
    }

    boolean lift() {
        return used().lift();
    }

    int compact() {
        return used().compact();
    }

    int day(int n) {
        return used().day(n);
    }

    int played(int text) {
        return used().played(text);
    }

    int years(int seed, int n) {
        return used().years(seed, n);
    }

    int undo() {
        return used().undo();
    }

    int at(int address) {
        return used().at(address);
    }

    int page(int page, int what) {
        return used().page(page, what);
    }

    int vector(int page, int i) {
        return used().vector(page, i);
    }

    int frame(int frame, int what) {
        return used().frame(frame, what);
    }

    int is(int what) {
        return used().is(what);
    }

    int book(int i, int what) {
        return used().book(i, what);
    }

    int foretold(int n, int what) {
        return used().foretold(n, what);
    }

    int clash(int a, int b) {
        return used().clash(a, b);
    }

    int can(int a, int b) {
        return used().can(a, b);
    }

    long odds(int a, int b, boolean low) {
        return used().odds(a, b, low);
    }

    long expected(boolean low) {
        return used().expected(low);
    }

    int most() {
        return used().most();
    }

    int mate(int frame) {
        return used().mate(frame);
    }

    int fewest() {
        return used().fewest();
    }

    int would() {
        return used().would();
    }

    int sparse() {
        return used().sparse();
    }

    int runs(int page) {
        return used().runs(page);
    }

    int longest(int page) {
        return used().longest(page);
    }

    int find(int page, int pattern, int n) {
        return used().find(page, pattern, n);
    }

    int same(int a, int b) {
        return used().same(a, b);
    }

    int sum(int page) {
        return used().sum(page);
    }

    int holds(int value) {
        return used().holds(value);
    }

    int fullest() {
        return used().fullest();
    }

    boolean sound() {
        return used().sound();
    }

    int probes() {
        return used().probes();
    }

    boolean meshes(int a, int b) {
        return used().meshes(a, b);
    }

    int said(int one, int other, int lets) {
        return used().said(one, other, lets);
    }

    int whose() {
        return used().whose();
    }

    int ledger(int what) {
        return used().ledger(what);
    }

    int image() {
        return used().image();
    }

    int back() {
        return used().back();
    }

    int about(int what) {
        return used().about(what);
    }
}
