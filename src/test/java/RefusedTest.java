import java.util.ArrayList;
import java.util.List;
import java.util.function.Consumer;
import java.util.function.ToLongFunction;

/** Each call that is refused answers as the document says, and leaves all as it was. */
public final class RefusedTest {
    private static final int NONE = Used.NONE;

    private record Refused(String call, ToLongFunction<Used> answer, long due) {
    }

    private final List<Refused> calls = new ArrayList<>();

    public static void main(String[] args) {
        Due.sentence("a new object", () -> new RefusedTest().ofAll().ofNothing().leave(pages -> { }));
        Due.sentence("all is there", () -> new RefusedTest().ofAll().ofMuch().leave(RefusedTest::much));
        Due.sentence("all is full", () -> new RefusedTest().ofAll().ofFull().leave(RefusedTest::full));
        Due.sentence("no room, though a FRAME is free", () -> new RefusedTest().noRoom().leave(RefusedTest::fullWithAFreeFrame));
        Due.sentence("no room but behind the fence", () -> new RefusedTest().noRoom().leave(RefusedTest::fullButTheFence));
        Due.sentence("the last DAY", () -> new RefusedTest().ofAll().lastDay().leave(pages -> Make.passTo(pages, 9999)));
        Due.sentence("39 DAYS ahead of the last", () -> new RefusedTest().beyond().leave(pages -> Make.passTo(pages, 9960)));
        Due.end();
    }

    private void no(String call, ToLongFunction<Used> answer, long due) {
        calls.add(new Refused(call, answer, due));
    }

    private void leave(Consumer<Used> setup) {
        for (Refused refused : calls) {
            Same.inAll(pages -> {
                setup.accept(pages);
                Due.is(refused.call(), refused.answer().applyAsLong(pages), refused.due());
            }, setup);
        }
    }

    /** Pages 0 and 1 fenced, 1 goes, one of its two slots was copied; texts, said and tape are full. */
    private static void much(Used pages) {
        Make.say(pages, "meshes 3 - other; probes 2;");
        Make.say(pages, "give 3; day 1;");
        Make.say(pages, "free 191;");
        Make.rule(pages, "meshes 3-other;probes time+2;");
        pages.by(0);
        for (int i = 0; i < 8; i++) {
            pages.said(i, 2, 1);
        }
        Make.giveTimes(pages, 96);
        Make.freeOthers(pages, Make.slots(0, 1, 2), Make.slots(3, 4), Make.slots(0, 5), Make.slots(6), Make.slots(8, 9, 10), Make.slots(5));
        pages.image();
        pages.day(2);
        pages.fence(0, 1);
        pages.move();
        Make.feed(pages, "give 7;" + " ".repeat(293));
        Due.is("page 1 is fenced", pages.page(1, 3), 1);
        Due.is("one is yet to be copied", pages.about(6), 1);
    }

    private static void full(Used pages) {
        Make.giveTimes(pages, 192);
    }

    private static void fullWithAFreeFrame(Used pages) {
        full(pages);
        for (int slot = 0; slot < 8; slot++) {
            pages.free(160 + slot);
            pages.free(184 + slot);
        }
        Due.is("mesh(10, 11)", pages.mesh(10, 11), 8);
        Due.is("FRAMES with PAGES", pages.is(2), 11);
        Due.is("PAGES that are OPEN", pages.is(5), 4095);
    }

    private static void fullButTheFence(Used pages) {
        full(pages);
        for (int slot = 0; slot < 15; slot++) {
            pages.free(176 + slot);
        }
        pages.free(160 + 15);
        Due.is("fence(10, 11)", pages.fence(10, 11), 1);
    }

    private RefusedTest ofAll() {
        for (int far : new int[] {-1, 1000, Integer.MIN_VALUE, Integer.MAX_VALUE}) {
            no("give(" + far + ")", pages -> pages.give(far), NONE);
            no("holds(" + far + ")", pages -> pages.holds(far), NONE);
        }
        for (int far : new int[] {-1, 192, Integer.MIN_VALUE, Integer.MAX_VALUE}) {
            no("free(" + far + ")", pages -> pages.free(far), NONE);
            no("write(" + far + ", 1)", pages -> pages.write(far, 1) ? 1 : 0, 0);
            no("at(" + far + ")", pages -> pages.at(far), NONE);
        }
        for (int far : new int[] {-1, 12, Integer.MIN_VALUE, Integer.MAX_VALUE}) {
            no("mesh(0, " + far + ")", pages -> pages.mesh(0, far), NONE);
            no("mesh(" + far + ", 0)", pages -> pages.mesh(far, 0), NONE);
            no("fence(0, " + far + ")", pages -> pages.fence(0, far), NONE);
            no("fence(" + far + ", 0)", pages -> pages.fence(far, 0), NONE);
            no("can(0, " + far + ")", pages -> pages.can(0, far), NONE);
        }
        no("mesh(0, 0)", pages -> pages.mesh(0, 0), NONE);
        no("fence(0, 0)", pages -> pages.fence(0, 0), NONE);
        for (int far : new int[] {-1, 0, 61, Integer.MIN_VALUE, Integer.MAX_VALUE}) {
            no("day(" + far + ")", pages -> pages.day(far), NONE);
            no("foretold(" + far + ", 0)", pages -> pages.foretold(far, 0), NONE);
        }
        for (int far : new int[] {-1, 10000, Integer.MIN_VALUE, Integer.MAX_VALUE}) {
            no("years(" + far + ", 1)", pages -> pages.years(far, 1), NONE);
        }
        for (int far : new int[] {-1, 0, 41, Integer.MIN_VALUE, Integer.MAX_VALUE}) {
            no("years(1, " + far + ")", pages -> pages.years(1, far), NONE);
        }
        for (int far : new int[] {-2, -1, 4, Integer.MIN_VALUE, Integer.MAX_VALUE}) {
            no("played(" + far + ")", pages -> pages.played(far), -2);
        }
        for (int far : new int[] {-2, 4, Integer.MIN_VALUE, Integer.MAX_VALUE}) {
            no("by(" + far + ")", pages -> pages.by(far) ? 1 : 0, 0);
        }
        for (int far : new int[] {-1, 301, Integer.MIN_VALUE, Integer.MAX_VALUE}) {
            no("end(" + far + ")", pages -> pages.end(far), NONE);
        }
        for (int far : new int[] {-2, 17, Integer.MIN_VALUE, Integer.MAX_VALUE}) {
            no("said(" + far + ", 0, 0)", pages -> pages.said(far, 0, 0), -2);
            no("said(0, " + far + ", 0)", pages -> pages.said(0, far, 0), -2);
            no("said(0, 0, " + far + ")", pages -> pages.said(0, 0, far), -2);
        }
        no("said(0, NONE, 0)", pages -> pages.said(0, -1, 0), -2);
        no("said(0, 0, NONE)", pages -> pages.said(0, 0, -1), -2);
        no("said(0, 0, 2)", pages -> pages.said(0, 0, 2), -2);
        no("page(12, 0)", pages -> pages.page(12, 0), -2);
        no("frame(12, 0)", pages -> pages.frame(12, 0), -2);
        no("is(6)", pages -> pages.is(6), -2);
        no("about(7)", pages -> pages.about(7), -2);
        no("ledger(5)", pages -> pages.ledger(5), -2);
        no("book(25, 0)", pages -> pages.book(25, 0), -2);
        no("fault(2)", pages -> pages.fault(2), NONE);
        return this;
    }

    private RefusedTest ofNothing() {
        no("free(0)", pages -> pages.free(0), NONE);
        no("write(0, 1)", pages -> pages.write(0, 1) ? 1 : 0, 0);
        no("mesh(0, 1)", pages -> pages.mesh(0, 1), NONE);
        no("fence(0, 1)", pages -> pages.fence(0, 1), NONE);
        no("move()", pages -> pages.move(), NONE);
        no("lift()", pages -> pages.lift() ? 1 : 0, 0);
        no("played(0)", pages -> pages.played(0), -2);
        no("by(0)", pages -> pages.by(0) ? 1 : 0, 0);
        no("undo()", pages -> pages.undo(), NONE);
        no("end(1)", pages -> pages.end(1), NONE);
        no("book(0, 0)", pages -> pages.book(0, 0), -2);
        no("fullest()", pages -> pages.fullest(), NONE);
        no("mate(0)", pages -> pages.mate(0), NONE);
        return this;
    }

    private RefusedTest ofMuch() {
        no("a ninth said", pages -> pages.said(1, 1, 1), -2);
        no("feed beyond 300 bytes", pages -> pages.feed(1, 2, 3, 4, 5), NONE);
        no("a fifth text", pages -> pages.text(), NONE);
        no("free behind the fence", pages -> pages.free(19), NONE);
        no("free of what is not LIVE", pages -> pages.free(3), NONE);
        no("free in a NEW PAGE", pages -> pages.free(191), NONE);
        no("write behind the fence", pages -> pages.write(19, 5) ? 1 : 0, 0);
        no("write behind the fence, copied by now or not", pages -> pages.write(20, 5) ? 1 : 0, 0);
        no("write of -1", pages -> pages.write(0, -1) ? 1 : 0, 0);
        no("write of 1000", pages -> pages.write(0, 1000) ? 1 : 0, 0);
        no("write of what is not LIVE", pages -> pages.write(3, 1) ? 1 : 0, 0);
        for (int[] pair : new int[][] {{0, 1}, {1, 0}, {1, 3}, {3, 1}, {0, 3}, {3, 0}, {2, 5}, {2, 4}, {3, 4}, {2, 7}, {7, 2}, {7, 8}}) {
            no("mesh(" + pair[0] + ", " + pair[1] + ")", pages -> pages.mesh(pair[0], pair[1]), NONE);
            no("fence(" + pair[0] + ", " + pair[1] + ")", pages -> pages.fence(pair[0], pair[1]), NONE);
        }
        Due.is("what can be MESHED", can(2, 3), 0);
        Due.is("with the law", can(4, 2), 0);
        Due.is("which is asked of the other one", can(2, 4), 5);
        no("but not FENCED, as one pair is", pages -> pages.fence(2, 3), NONE);
        no("one pair at a time", pages -> pages.fence(4, 2), NONE);
        return this;
    }

    private static int can(int a, int b) {
        Used pages = new Used();
        much(pages);
        return pages.can(a, b);
    }

    private RefusedTest ofFull() {
        no("give(0)", pages -> pages.give(0), NONE);
        no("mesh(0, 1), all CLASH", pages -> pages.mesh(0, 1), NONE);
        no("fence(0, 1), all CLASH", pages -> pages.fence(0, 1), NONE);
        return this;
    }

    private RefusedTest noRoom() {
        no("give(0)", pages -> pages.give(0), NONE);
        no("give(999)", pages -> pages.give(999), NONE);
        return this;
    }

    private RefusedTest lastDay() {
        no("day(1)", pages -> pages.day(1), NONE);
        no("day(60)", pages -> pages.day(60), NONE);
        return this;
    }

    private RefusedTest beyond() {
        no("day(40)", pages -> pages.day(40), NONE);
        no("day(60)", pages -> pages.day(60), NONE);
        return this;
    }
}
