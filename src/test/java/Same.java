import java.util.ArrayList;
import java.util.List;
import java.util.function.Consumer;
import java.util.function.ToLongFunction;

/**
 * Whether two ways lead to like objects: all that can be asked is asked of both, and what they do then,
 * each on as many new objects as are needed, so that none is used too often.
 */
final class Same {
    private static final int CHUNK = 90;

    private record Ask(String call, ToLongFunction<Used> answer) {
    }

    private static final List<Ask> ASKS = new ArrayList<>();
    private static final List<Ask> TAPE = new ArrayList<>();

    static {
        for (int page = 0; page < 12; page++) {
            for (int what = 0; what < 5; what++) {
                int p = page;
                int w = what;
                ask("page(" + p + ", " + w + ")", pages -> pages.page(p, w));
            }
            for (int what = 0; what < 2; what++) {
                int p = page;
                int w = what;
                ask("frame(" + p + ", " + w + ")", pages -> pages.frame(p, w));
            }
        }
        for (int what = 0; what < 7; what++) {
            int w = what;
            if (w < 6) {
                ask("is(" + w + ")", pages -> pages.is(w));
            }
            if (w != 4) {
                ask("about(" + w + ")", pages -> pages.about(w));
            }
        }
        ask("probes()", pages -> pages.probes());
        ask("whose()", pages -> pages.whose());
        for (int address = 0; address < 192; address++) {
            int a = address;
            ask("at(" + a + ")", pages -> pages.at(a));
            ask("vector(" + a / 16 + ", " + a % 16 + ")", pages -> pages.vector(a / 16, a % 16));
        }
        ask("book(NONE, 0)", pages -> pages.book(-1, 0));
        for (int i = 0; i < 25; i++) {
            for (int what = 0; what < 4; what++) {
                int line = i;
                int w = what;
                ask("book(" + line + ", " + w + ")", pages -> pages.book(line, w));
            }
        }
        for (int n : new int[] {1, 60}) {
            for (int what = 0; what < 3; what++) {
                int w = what;
                ask("foretold(" + n + ", " + w + ")", pages -> pages.foretold(n, w));
            }
        }
        tape("fault(0)", pages -> pages.fault(0));
        tape("fault(1)", pages -> pages.fault(1));
        tape("about(4)", pages -> pages.about(4));
        tape("text()", pages -> pages.text());
        tape("fault(0) of it", pages -> pages.fault(0));
        tape("fault(1) of it", pages -> pages.fault(1));
        tape("about(4)", pages -> pages.about(4));
        for (int i = 0; i < 4; i++) {
            int text = i;
            tape("by(" + text + ")", pages -> pages.by(text) ? 1 : 0);
            tape("probes()", pages -> pages.probes());
            tape("meshes(0, 1)", pages -> pages.meshes(0, 1) ? 1 : 0);
            tape("played(" + text + ")", pages -> pages.played(text));
            tape("X", pages -> pages.is(1));
            tape("DAY", pages -> pages.is(0));
            tape("live", pages -> pages.is(3));
        }
    }

    private Same() {
    }

    private static void ask(String call, ToLongFunction<Used> answer) {
        ASKS.add(new Ask(call, answer));
    }

    private static void tape(String call, ToLongFunction<Used> answer) {
        TAPE.add(new Ask(call, answer));
    }

    private static void asked(List<Ask> asks, int from, int to, Consumer<Used> got, Consumer<Used> want) {
        Used one = new Used();
        Used other = new Used();
        got.accept(one);
        want.accept(other);
        for (int i = from; i < to; i++) {
            Due.is(asks.get(i).call(), asks.get(i).answer().applyAsLong(one), asks.get(i).answer().applyAsLong(other));
        }
    }

    /** Alike in all, but the tape and the latest fault. */
    static void butTheTape(Consumer<Used> got, Consumer<Used> want) {
        askedBehind(pages -> { }, got, want);
        List<Ask> doing = new ArrayList<>();
        for (int i = 0; i < 31; i++) {
            doing.add(new Ask("undo()", pages -> pages.undo()));
            doing.add(new Ask("X", pages -> pages.is(1)));
            doing.add(new Ask("live", pages -> pages.is(3)));
        }
        asked(doing, 0, doing.size(), got, want);
        doing.clear();
        doing.add(new Ask("move()", pages -> pages.move()));
        doing.add(new Ask("lift()", pages -> pages.lift() ? 1 : 0));
        doing.add(new Ask("said(0, 0, 1)", pages -> pages.said(0, 0, 1)));
        doing.add(new Ask("whose()", pages -> pages.whose()));
        doing.add(new Ask("give(1)", pages -> pages.give(1)));
        doing.add(new Ask("back()", pages -> pages.back()));
        asked(doing, 0, doing.size(), got, want);
        askedBehind(pages -> pages.back(), got, want);
        askedBehind(pages -> {
            for (int i = 0; i < 8; i++) {
                pages.move();
            }
        }, got, want);
    }

    private static void askedBehind(Consumer<Used> then, Consumer<Used> got, Consumer<Used> want) {
        for (int from = 0; from < ASKS.size(); from += CHUNK) {
            asked(ASKS, from, Math.min(ASKS.size(), from + CHUNK), got.andThen(then), want.andThen(then));
        }
    }

    static void inAll(Consumer<Used> got, Consumer<Used> want) {
        butTheTape(got, want);
        asked(TAPE, 0, TAPE.size(), got, want);
    }
}
