/** Promises 19 to 44 and part III: a test for each sentence that names a boundary. */
public final class AskingEdgesTest {
    private static final int NONE = Used.NONE;
    private static final int[] NO_PAGES = {Integer.MIN_VALUE, -2, -1, 12, 13, Integer.MAX_VALUE};

    public static void main(String[] args) {
        Due.sentence("19: it is not LIVE, and for others (0 .. 191)", AskingEdgesTest::valuesAt);
        Due.sentence("20: its FRAME (NONE: NEW)", AskingEdgesTest::framesOfPages);
        Due.sentence("20: LIVE SLOTS (bits), how many", AskingEdgesTest::slotsOfPages);
        Due.sentence("20: whether it is FENCED", AskingEdgesTest::fencedPages);
        Due.sentence("20: the SLOT it would give out (NONE: none)", AskingEdgesTest::slotToGive);
        Due.sentence("20: -2 for others (0 .. 11)", AskingEdgesTest::otherPages);
        Due.sentence("21: it is NEW, and for others (0 .. 15)", AskingEdgesTest::vectors);
        Due.sentence("22: PAGES in it, SLOTS that are LIVE in any", AskingEdgesTest::frames);
        Due.sentence("22: -2 for others (0 .. 11)", AskingEdgesTest::otherFrames);
        Due.sentence("23: is", AskingEdgesTest::is);
        Due.sentence("23: -2 for others", AskingEdgesTest::otherIs);
        Due.sentence("24: how many (i NONE)", AskingEdgesTest::linesOfBook);
        Due.sentence("24: the latest 25, from the eldest on", AskingEdgesTest::latestLines);
        Due.sentence("24: each kind of line", AskingEdgesTest::kindsOfLines);
        Due.sentence("24: -2 if there is none such, and for others", AskingEdgesTest::otherLines);
        Due.sentence("25: 1 .. 60, those that can pass", AskingEdgesTest::foretold);
        Due.sentence("25: NONE for others", AskingEdgesTest::otherForetold);
        Due.sentence("25: nothing is changed", AskingEdgesTest::foretoldChangesNothing);
        Due.sentence("26: a CLASH", AskingEdgesTest::clashes);
        Due.sentence("27: CAN, the least first", AskingEdgesTest::can);
        Due.sentence("27: NONE for others (0 .. 11)", AskingEdgesTest::otherCan);
        Due.sentence("28: ODDS", AskingEdgesTest::odds);
        Due.sentence("28: NONE for others (0 .. 16)", AskingEdgesTest::otherOdds);
        Due.sentence("29: without pairs 0 by 1", AskingEdgesTest::withoutPairs);
        Due.sentence("29: those FENCED, too, in lowest terms", AskingEdgesTest::expected);
        Due.sentence("30: MOST PAIRS", AskingEdgesTest::mostPairs);
        Due.sentence("31: the row of mates is lowest", AskingEdgesTest::mates);
        Due.sentence("31: NONE: none, and for others", AskingEdgesTest::otherMates);
        Due.sentence("32: FEWEST FRAMES", AskingEdgesTest::fewest);
        Due.sentence("33: COMPACTED WOULD be", AskingEdgesTest::would);
        Due.sentence("34: SPARSE ones", AskingEdgesTest::sparse);
        Due.sentence("35: RUNS", AskingEdgesTest::runs);
        Due.sentence("36: THE LONGEST RUN", AskingEdgesTest::longest);
        Due.sentence("37: FOUND", AskingEdgesTest::found);
        Due.sentence("37: NONE for others", AskingEdgesTest::otherPatterns);
        Due.sentence("38: ALIKE", AskingEdgesTest::alike);
        Due.sentence("39: VALUES together", AskingEdgesTest::sums);
        Due.sentence("40: THE FIRST ADDRESS", AskingEdgesTest::holds);
        Due.sentence("41: of like ones the lowest", AskingEdgesTest::fullest);
        Due.sentence("42: SOUND", AskingEdgesTest::sound);
        Due.sentence("43: probes now", AskingEdgesTest::probes);
        Due.sentence("44: whether meshes lets it", AskingEdgesTest::meshes);
        Due.end();
    }

    private static void valuesAt() {
        Used pages = Make.with(192);
        for (int address : new int[] {0, 1, 15, 16, 175, 176, 190, 191}) {
            Due.holds("at(" + address + ")", pages.at(address) != NONE);
        }
        for (int address : new int[] {-1, -2, 192, 193, Integer.MIN_VALUE, Integer.MAX_VALUE}) {
            Due.is("at(" + address + ")", pages.at(address), NONE);
        }
        pages.free(191);
        Due.is("at(191), free", pages.at(191), NONE);
        Due.is("at(0) in a NEW PAGE", new Used().at(0), NONE);
        pages = Make.withSlots(Make.slots(0), Make.slots(1));
        int value = pages.at(17);
        pages.mesh(0, 1);
        Due.is("at(1): LIVE in page 1 alone", pages.at(1), NONE);
        Due.is("at(16): LIVE in page 0 alone", pages.at(16), NONE);
        Due.is("at(17)", pages.at(17), value);
        pages = Make.withSlots(Make.slots(0), Make.slots(1));
        pages.fence(0, 1);
        Due.is("at(17) behind the fence", pages.at(17), value);
        Due.is("at(1) behind the fence", pages.at(1), NONE);
    }

    private static void framesOfPages() {
        Used pages = Make.withSlots(Make.slots(0), Make.slots(1, 2), Make.slots(3));
        Due.is("page(0, 0)", pages.page(0, 0), 0);
        Due.is("page(2, 0)", pages.page(2, 0), 2);
        Due.is("page(3, 0), NEW", pages.page(3, 0), NONE);
        Due.is("page(11, 0), NEW", pages.page(11, 0), NONE);
        pages.fence(0, 1);
        Due.is("page(0, 0) behind the fence", pages.page(0, 0), 0);
        pages.move();
        Due.is("page(0, 0), MESHED", pages.page(0, 0), 1);
        pages.free(0);
        Due.is("page(0, 0), NEW again", pages.page(0, 0), NONE);
        Due.is("page(11, 0) of twelve", Make.with(192).page(11, 0), 11);
    }

    private static void slotsOfPages() {
        Used pages = Make.with(192);
        for (int page : new int[] {0, 11}) {
            Due.is("all SLOTS", pages.page(page, 1), 65535);
            Due.is("how many", pages.page(page, 2), 16);
            pages.free(page * 16 + 15);
            Due.is("without 15", pages.page(page, 1), 32767);
            pages.free(page * 16);
            Due.is("without 0", pages.page(page, 1), 32766);
            Due.is("how many", pages.page(page, 2), 14);
        }
        pages = Make.withSlots(Make.slots(0, 15), Make.slots(1));
        pages.mesh(0, 1);
        Due.is("its own alone", pages.page(0, 1), 32769);
        Due.is("its own alone", pages.page(1, 1), 2);
        Due.is("how many", pages.page(0, 2), 2);
        Due.is("how many", pages.page(1, 2), 1);
        Due.is("of a NEW PAGE", pages.page(2, 1), 0);
        Due.is("how many of a NEW PAGE", pages.page(2, 2), 0);
    }

    private static void fencedPages() {
        Used pages = Make.withSlots(Make.slots(0, 1, 2, 3), Make.slots(4), Make.slots(5), Make.slots(6));
        pages.mesh(1, 2);
        for (int page = 0; page < 12; page++) {
            Due.is("none yet: page " + page, pages.page(page, 3), 0);
        }
        pages.fence(0, 1);
        int[] fenced = {0, 1, 1, 0, 0, 0, 0, 0, 0, 0, 0, 0};
        for (int page = 0; page < 12; page++) {
            Due.is("page " + page, pages.page(page, 3), fenced[page]);
        }
        pages.move();
        Due.is("copied in part", pages.page(1, 3), 1);
        pages.move();
        Due.is("MESHED", pages.page(1, 3) + pages.page(2, 3) + pages.page(0, 3), 0);
    }

    private static void slotToGive() {
        Used pages = Make.with(17);
        Due.is("a full one", pages.page(0, 4), NONE);
        Due.is("the second in the VECTOR", pages.page(1, 4), pages.vector(1, 1));
        Due.is("a NEW one", pages.page(2, 4), NONE);
        int last = pages.vector(0, 15);
        pages.free(last);
        Due.is("the last in the VECTOR", pages.page(0, 4), last);
        Due.is("it gives that", pages.give(1), last);
        pages = Make.withSlots(Make.fromTo(0, 12), Make.slots(12, 13), Make.slots(14, 15));
        pages.mesh(0, 1);
        int slot = pages.page(1, 4);
        Due.holds("page 1 would give what is LIVE in none of its FRAME: " + slot, slot == 14 || slot == 15);
        Due.is("which depends on the VECTOR", pages.page(1, 4), firstOf(pages, 1, 3 << 14));
        Due.is("so does that of page 0", pages.page(0, 4), firstOf(pages, 0, 3 << 14));
        pages.mesh(0, 2);
        Due.is("none any more", pages.page(1, 4), NONE);
        Due.is("none any more", pages.page(2, 4), NONE);
    }

    private static int firstOf(Used pages, int page, int slots) {
        for (int i = 0; i < 16; i++) {
            int slot = pages.vector(page, i);
            if ((slots >> slot & 1) == 1) {
                return slot;
            }
        }
        return NONE;
    }

    private static void otherPages() {
        Used pages = Make.with(192);
        for (int page : NO_PAGES) {
            for (int what = 0; what < 5; what++) {
                Due.is("page(" + page + ", " + what + ")", pages.page(page, what), -2);
            }
        }
        for (int what : new int[] {Integer.MIN_VALUE, -2, -1, 5, 6, Integer.MAX_VALUE}) {
            Due.is("page(0, " + what + ")", pages.page(0, what), -2);
            Due.is("page(11, " + what + ")", pages.page(11, what), -2);
        }
        Due.is("a NEW one is no other", new Used().page(0, 3), 0);
    }

    private static void vectors() {
        Used pages = Make.with(192);
        for (int page : new int[] {0, 11}) {
            int seen = 0;
            for (int i = 0; i < 16; i++) {
                seen |= 1 << pages.vector(page, i);
            }
            Due.is("each SLOT once", seen, 65535);
            for (int i : new int[] {Integer.MIN_VALUE, -2, -1, 16, 17, Integer.MAX_VALUE}) {
                Due.is("vector(" + page + ", " + i + ")", pages.vector(page, i), NONE);
            }
        }
        for (int page : NO_PAGES) {
            Due.is("vector(" + page + ", 0)", pages.vector(page, 0), NONE);
        }
        Make.closePage(pages, 3);
        Due.is("it is NEW again", pages.vector(3, 0), NONE);
        Due.is("NEW", new Used().vector(0, 0), NONE);
    }

    private static void frames() {
        Used pages = Make.withSlots(Make.slots(0, 15), Make.slots(1), Make.slots(2, 3, 4));
        Due.is("frame(0, 0)", pages.frame(0, 0), 1);
        Due.is("frame(0, 1)", pages.frame(0, 1), 32769);
        Due.is("frame(3, 0) without PAGES", pages.frame(3, 0), 0);
        Due.is("frame(3, 1) without PAGES", pages.frame(3, 1), 0);
        pages.mesh(0, 1);
        Due.is("both", pages.frame(0, 0), 3);
        Due.is("in any", pages.frame(0, 1), 32771);
        Due.is("the one that went", pages.frame(1, 0), 0);
        Due.is("its SLOTS", pages.frame(1, 1), 0);
        pages.fence(2, 0);
        pages.move();
        Due.is("the one that goes keeps its PAGES", pages.frame(0, 0) * 100 + pages.frame(2, 0), 304);
        Due.is("its SLOTS, too", pages.frame(0, 1), 32771);
        Due.is("the one that stays has its own", pages.frame(2, 1), 28);
        pages = Make.with(192);
        Due.is("frame(11, 0)", pages.frame(11, 0), 2048);
        Due.is("frame(11, 1)", pages.frame(11, 1), 65535);
    }

    private static void otherFrames() {
        Used pages = Make.with(192);
        for (int frame : NO_PAGES) {
            Due.is("frame(" + frame + ", 0)", pages.frame(frame, 0), -2);
            Due.is("frame(" + frame + ", 1)", pages.frame(frame, 1), -2);
        }
        for (int what : new int[] {Integer.MIN_VALUE, -2, -1, 2, 3, Integer.MAX_VALUE}) {
            Due.is("frame(0, " + what + ")", pages.frame(0, what), -2);
        }
    }

    private static void is() {
        Used pages = Make.withSlots(Make.slots(0), Make.slots(1), Make.slots(2, 3));
        Due.is("FRAMES with PAGES", pages.is(2), 3);
        pages.mesh(0, 1);
        Due.is("FRAMES with PAGES", pages.is(2), 2);
        Due.is("LIVE SLOTS in all", pages.is(3), 4);
        Due.is("how often was MESHED", pages.is(4), 1);
        Due.is("PAGES that are OPEN", pages.is(5), 7);
        pages.fence(0, 2);
        Due.is("those of the fence count", pages.is(2), 2);
        Due.is("FENCED is not yet MESHED", pages.is(4), 1);
        pages.lift();
        pages.free(0);
        Due.is("PAGES that are OPEN", pages.is(5), 6);
        pages.compact();
        Due.is("compacted ones count", pages.is(4), 2);
        Due.is("DAY", pages.is(0), 0);
        pages = Make.with(192);
        Due.is("FRAMES with PAGES", pages.is(2), 12);
        Due.is("LIVE SLOTS in all", pages.is(3), 192);
        Due.is("PAGES that are OPEN", pages.is(5), 4095);
    }

    private static void otherIs() {
        Used pages = Make.with(20);
        for (int what : new int[] {Integer.MIN_VALUE, -2, -1, 6, 7, Integer.MAX_VALUE}) {
            Due.is("is(" + what + ")", pages.is(what), -2);
        }
    }

    private static void linesOfBook() {
        Used pages = new Used();
        Due.is("at first none", pages.book(NONE, 0), 0);
        for (int lines = 2; lines <= 30; lines += 2) {
            pages.free(pages.give(1));
            Due.is("how many", pages.book(NONE, 0), Math.min(25, lines));
            for (int what : new int[] {Integer.MIN_VALUE, -1, 1, 2, 3, 4, Integer.MAX_VALUE}) {
                Due.is("how many, whatever is asked", pages.book(NONE, what), Math.min(25, lines));
            }
        }
        pages.undo();
        pages.undo();
        Due.is("all are there", pages.book(NONE, 0), 25);
    }

    private static void latestLines() {
        Used pages = new Used();
        // Pages 0 and up are opened on DAY 0, one more each DAY that gives when all are full.
        Make.giveTimes(pages, 12 * 16);
        for (int i = 0; i < 12; i++) {
            Make.line(pages, i, 0, 0, i, i);
        }
        for (int page = 0; page < 12; page++) {
            Make.closePage(pages, page);
        }
        Due.is("24 lines", pages.book(NONE, 0), 24);
        Make.line(pages, 0, 0, 0, 0, 0);
        Make.line(pages, 23, 0, 1, 11, 11);
        Due.is("line 24 is none yet", pages.book(24, 0), -2);
        pages.give(1);
        Due.is("25 lines", pages.book(NONE, 0), 25);
        Make.line(pages, 0, 0, 0, 0, 0);
        Make.line(pages, 24, 0, 0, 0, 0);
        pages.free(pages.vector(0, 0));
        Due.is("25 lines", pages.book(NONE, 0), 25);
        Make.line(pages, 0, 0, 0, 1, 1);
        Make.line(pages, 23, 0, 0, 0, 0);
        Make.line(pages, 24, 0, 1, 0, 0);
        Due.is("line 25", pages.book(25, 0), -2);
    }

    private static void kindsOfLines() {
        Used pages = Make.withSlots(Make.slots(0), Make.slots(1, 2), Make.slots(3, 4, 5));
        pages.fence(0, 1);
        Make.line(pages, 3, 0, 3, 0, 1);
        pages.lift();
        Make.line(pages, 4, 0, 4, 0, 1);
        pages.mesh(0, 1);
        Make.line(pages, 5, 0, 2, 1, 0);
        pages.fence(2, 0);
        Make.line(pages, 6, 0, 3, 1, 2);
        pages.move();
        pages.move();
        Due.is("moving in part is not written down", pages.book(NONE, 0), 7);
        pages.move();
        Make.line(pages, 7, 0, 2, 2, 1);
        pages.free(0);
        Make.line(pages, 8, 0, 1, 0, 2);
        Due.is("freeing one of two is not", pages.free(17) != NONE, true);
        Due.is("lines", pages.book(NONE, 0), 9);
        int[] counts = {3, 1, 2, 2, 1};
        for (int what = 0; what < 5; what++) {
            Due.is("ledger(" + what + ")", pages.ledger(what), counts[what]);
        }
        pages = Make.withSlots(Make.slots(0), Make.slots(1));
        pages.compact();
        Due.is("compacted: meshed", pages.book(2, 1), 2);
    }

    private static void otherLines() {
        Used pages = Make.with(33);
        Due.is("how many", pages.book(NONE, 0), 3);
        for (int i : new int[] {Integer.MIN_VALUE, -3, -2, 3, 4, 24, 25, Integer.MAX_VALUE}) {
            for (int what = 0; what < 4; what++) {
                Due.is("book(" + i + ", " + what + ")", pages.book(i, what), -2);
            }
        }
        for (int what : new int[] {Integer.MIN_VALUE, -2, -1, 4, 5, Integer.MAX_VALUE}) {
            Due.is("book(2, " + what + ")", pages.book(2, what), -2);
        }
        Due.is("book(2, 2)", pages.book(2, 2), 2);
        Due.is("book(0, 0) of none", new Used().book(0, 0), -2);
    }

    private static void foretold() {
        for (int n : new int[] {1, 2, 59, 60}) {
            Used pages = Make.withSlots(Make.slots(0), Make.slots(1), Make.slots(2));
            pages.mesh(0, 1);
            int frames = pages.foretold(n, 0);
            int live = pages.foretold(n, 1);
            int often = pages.foretold(n, 2);
            pages.day(n);
            Due.is("FRAMES with PAGES behind " + n, pages.is(2), frames);
            Due.is("LIVE SLOTS behind " + n, pages.is(3), live);
            Due.is("how often was MESHED behind " + n, pages.is(4), often);
        }
        Used pages = new Used();
        Make.passTo(pages, 9998);
        int[] one = {pages.foretold(1, 0), pages.foretold(1, 1), pages.foretold(1, 2)};
        for (int n : new int[] {2, 60}) {
            for (int what = 0; what < 3; what++) {
                Due.is("those that can pass: foretold(" + n + ", " + what + ")", pages.foretold(n, what), one[what]);
            }
        }
        pages.day(1);
        Due.is("is(2)", pages.is(2), one[0]);
        Due.is("is(3)", pages.is(3), one[1]);
        Due.is("is(4)", pages.is(4), one[2]);
        Due.is("none can pass: FRAMES", pages.foretold(60, 0), one[0]);
        Due.is("none can pass: LIVE SLOTS", pages.foretold(60, 1), one[1]);
        Due.is("none can pass: MESHED", pages.foretold(60, 2), one[2]);
    }

    private static void otherForetold() {
        Used pages = Make.with(20);
        for (int n : new int[] {Integer.MIN_VALUE, -1, 0, 61, 62, Integer.MAX_VALUE}) {
            for (int what = 0; what < 3; what++) {
                Due.is("foretold(" + n + ", " + what + ")", pages.foretold(n, what), NONE);
            }
        }
        for (int what : new int[] {Integer.MIN_VALUE, -2, -1, 3, 4, Integer.MAX_VALUE}) {
            Due.is("foretold(1, " + what + ")", pages.foretold(1, what), NONE);
            Due.is("foretold(60, " + what + ")", pages.foretold(60, what), NONE);
        }
    }

    private static void foretoldChangesNothing() {
        Same.inAll(pages -> {
            AskingEdgesTest.four(pages);
            pages.foretold(60, 0);
            pages.would();
            pages.most();
            pages.mate(0);
            pages.fewest();
            pages.expected(true);
            pages.whose();
            pages.probes();
            pages.sound();
            pages.ledger(0);
        }, AskingEdgesTest::four);
        Same.inAll(pages -> {
            AskingEdgesTest.four(pages);
            pages.fence(0, 1);
            pages.foretold(60, 2);
            pages.would();
        }, pages -> {
            AskingEdgesTest.four(pages);
            pages.fence(0, 1);
        });
    }

    private static void four(Used pages) {
        Make.giveTimes(pages, 64);
        Make.freeOthers(pages, Make.slots(0), Make.slots(1), Make.slots(2), Make.slots(3));
        Make.rule(pages, "meshes frames;probes 12;");
    }

    private static void clashes() {
        Used pages = Make.withSlots(Make.slots(0, 1, 15), Make.slots(1, 2, 15), Make.slots(3), Make.slots(2));
        Due.is("clash(0, 1)", pages.clash(0, 1), 32770);
        Due.is("clash(1, 0)", pages.clash(1, 0), 32770);
        Due.is("clash(0, 2)", pages.clash(0, 2), 0);
        Due.is("clash(0, 0): LIVE in its FRAME", pages.clash(0, 0), 32771);
        for (int page : new int[] {Integer.MIN_VALUE, -2, -1, 4, 11, 12, Integer.MAX_VALUE}) {
            Due.is("clash(0, " + page + ")", pages.clash(0, page), NONE);
            Due.is("clash(" + page + ", 0)", pages.clash(page, 0), NONE);
            Due.is("clash(" + page + ", " + page + ")", pages.clash(page, page), NONE);
        }
        pages.mesh(2, 3);
        Due.is("of FRAMES: page 2 has 3 alone, its FRAME 2, too", pages.clash(1, 2), 4);
        Due.is("two of one FRAME", pages.clash(2, 3), 12);
        pages.fence(0, 2);
        Due.is("fences aside", pages.clash(1, 3), 4);
    }

    private static void can() {
        Used pages = Make.withSlots(Make.slots(0, 1), Make.slots(1), Make.slots(2), Make.slots(3), Make.slots(4), Make.slots(5), Make.slots(4));
        Due.is("can(0, 2)", pages.can(0, 2), 0);
        Due.is("they CLASH", pages.can(0, 1), 4);
        Due.is("one FRAME", pages.can(0, 0), 2);
        Due.is("one is NEW", pages.can(0, 7), 1);
        Due.is("one is NEW", pages.can(7, 0), 1);
        Due.is("both are", pages.can(7, 7), 1);
        pages.mesh(2, 3);
        Due.is("two of one FRAME", pages.can(2, 3), 2);
        Make.rule(pages, "meshes 0;");
        Due.is("meshes does not let it", pages.can(0, 2), 5);
        Due.is("ahead of it: they CLASH", pages.can(0, 1), 4);
        Due.is("ahead of it: one FRAME", pages.can(2, 3), 2);
        Due.is("ahead of it: NEW", pages.can(2, 11), 1);
        pages.by(NONE);
        pages.fence(0, 4);
        pages.by(0);
        Due.is("one goes", pages.can(5, 4), 3);
        Due.is("one stays", pages.can(5, 0), 3);
        Due.is("one stays", pages.can(0, 5), 3);
        Due.is("the two of the fence", pages.can(0, 4), 3);
        Due.is("ahead of a CLASH: one goes", pages.can(6, 4), 3);
        Due.is("ahead of a CLASH: one stays", pages.can(1, 0), 3);
        Due.is("ahead of the fence: one FRAME", pages.can(4, 4), 2);
        Due.is("ahead of the fence: NEW", pages.can(4, 7), 1);
        Due.is("all others as ahead", pages.can(5, 6), 5);
        pages.by(NONE);
        Due.is("all others can be", pages.can(5, 6), 0);
    }

    private static void otherCan() {
        Used pages = Make.withSlots(Make.slots(0), Make.slots(1));
        for (int page : NO_PAGES) {
            Due.is("can(0, " + page + ")", pages.can(0, page), NONE);
            Due.is("can(" + page + ", 0)", pages.can(page, 0), NONE);
            Due.is("can(" + page + ", " + page + ")", pages.can(page, page), NONE);
            Due.is("can(" + page + ", 11), a NEW one", pages.can(page, 11), NONE);
            Due.is("can(11, " + page + "), a NEW one", pages.can(11, page), NONE);
        }
        Due.is("can(11, 0)", pages.can(11, 0), 1);
    }

    private static void fraction(int a, int b, long upper, long lower) {
        Used pages = new Used();
        Due.is("odds(" + a + ", " + b + ", false)", pages.odds(a, b, false), upper);
        Due.is("odds(" + a + ", " + b + ", true)", pages.odds(a, b, true), lower);
        Due.is("odds(" + b + ", " + a + ", false)", pages.odds(b, a, false), upper);
        Due.is("odds(" + b + ", " + a + ", true)", pages.odds(b, a, true), lower);
    }

    private static void odds() {
        fraction(0, 0, 1, 1);
        fraction(0, 16, 1, 1);
        fraction(16, 16, 0, 1);
        fraction(16, 1, 0, 1);
        fraction(15, 1, 1, 16);
        fraction(15, 2, 0, 1);
        fraction(1, 1, 15, 16);
        fraction(2, 2, 91, 120);
        fraction(3, 4, 11, 28);
        fraction(8, 8, 1, 12870);
        fraction(8, 9, 0, 1);
        fraction(7, 7, 9, 2860);
        fraction(14, 2, 1, 120);
        fraction(4, 12, 1, 1820);
        for (int b = 0; b <= 16; b++) {
            fraction(0, b, 1, 1);
        }
    }

    private static void otherOdds() {
        Used pages = new Used();
        for (int far : new int[] {Integer.MIN_VALUE, -2, -1, 17, 18, Integer.MAX_VALUE}) {
            for (int in : new int[] {0, 16}) {
                Due.is("odds(" + far + ", " + in + ", false)", pages.odds(far, in, false), NONE);
                Due.is("odds(" + in + ", " + far + ", false)", pages.odds(in, far, false), NONE);
                Due.is("odds(" + far + ", " + in + ", true)", pages.odds(far, in, true), NONE);
                Due.is("odds(" + in + ", " + far + ", true)", pages.odds(in, far, true), NONE);
            }
        }
    }

    private static void withoutPairs() {
        Used pages = new Used();
        Due.is("none: upper", pages.expected(false), 0);
        Due.is("none: lower", pages.expected(true), 1);
        pages.give(1);
        Due.is("one FRAME: upper", pages.expected(false), 0);
        Due.is("one FRAME: lower", pages.expected(true), 1);
        pages = Make.withSlots(Make.slots(0), Make.slots(1));
        pages.mesh(0, 1);
        Due.is("two PAGES of one FRAME: upper", pages.expected(false), 0);
        Due.is("two PAGES of one FRAME: lower", pages.expected(true), 1);
        pages = Make.with(192);
        Due.is("full ones: upper", pages.expected(false), 0);
        Due.is("full ones: lower", pages.expected(true), 1);
    }

    private static void expected() {
        Used pages = Make.withSlots(Make.slots(0), Make.slots(0));
        Due.is("15 by 16", pages.expected(false) * 100 + pages.expected(true), 1516);
        pages = Make.withSlots(Make.slots(0), Make.slots(0), Make.slots(0, 1));
        // 15/16 + 7/8 + 7/8
        Due.is("43 by 16", pages.expected(false) * 100 + pages.expected(true), 4316);
        pages = Make.withSlots(Make.slots(0), Make.slots(1), Make.slots(0, 1), Make.slots(2));
        // Three of 15/16 and three of 7/8: 87/16
        Due.is("87 by 16", pages.expected(false) * 100 + pages.expected(true), 8716);
        pages.fence(0, 1);
        Due.is("those FENCED, too", pages.expected(false) * 100 + pages.expected(true), 8716);
        pages.move();
        // 2 with 2: 91/120; 2 with 1, twice: 7/4
        Due.is("301 by 120", pages.expected(false) * 1000 + pages.expected(true), 301120);
        pages = Make.withSlots(Make.fromTo(0, 8), Make.fromTo(0, 8));
        Due.is("1 by 12870", pages.expected(false) * 100000 + pages.expected(true), 112870);
        pages = Make.withSlots(Make.fromTo(0, 8), Make.fromTo(0, 8), Make.fromTo(0, 7), Make.fromTo(0, 7));
        // 1/12870 + 4 * 1/1430 + 9/2860 is 155/25740
        Due.is("31 by 5148", pages.expected(false) * 10000 + pages.expected(true), 315148);
        pages = Make.withSlots(Make.slots(0), Make.slots(0), Make.slots(0), Make.slots(0), Make.slots(0), Make.slots(0),
            Make.slots(0), Make.slots(0), Make.slots(0), Make.slots(0), Make.slots(0), Make.slots(0));
        Due.is("66 of 15 by 16", pages.expected(false) * 100 + pages.expected(true), 49508);
    }

    private static void mostPairs() {
        Due.is("of none", new Used().most(), 0);
        Due.is("of one", Make.with(1).most(), 0);
        Due.is("of two that CLASH", Make.withSlots(Make.slots(0), Make.slots(0)).most(), 0);
        Due.is("of two", Make.withSlots(Make.slots(0), Make.slots(1)).most(), 1);
        Due.is("of three", Make.withSlots(Make.slots(0), Make.slots(1), Make.slots(2)).most(), 1);
        Due.is("of a path", Make.withSlots(Make.slots(0), Make.slots(1, 2, 3), Make.slots(1, 4), Make.slots(0, 2)).most(), 2);
        Due.is("of a star", Make.withSlots(Make.slots(0), Make.slots(1, 2), Make.slots(1, 3), Make.slots(1, 4)).most(), 1);
        Used pages = Make.withSlots(Make.slots(0), Make.slots(1), Make.slots(2), Make.slots(3), Make.slots(4), Make.slots(5),
            Make.slots(6), Make.slots(7), Make.slots(8), Make.slots(9), Make.slots(10), Make.slots(11));
        Due.is("of twelve", pages.most(), 6);
        pages.fence(0, 1);
        Make.rule(pages, "meshes 0;");
        Due.is("meshes, fences aside", pages.most(), 6);
        pages = Make.withSlots(Make.slots(0), Make.slots(1), Make.slots(1), Make.slots(2));
        pages.mesh(0, 1);
        Due.is("of FRAMES: three", pages.most(), 1);
        Due.is("by FRAMES: page 0's has slot 1", pages.mate(0), 3);
    }

    private static void row(Used pages, int... mates) {
        for (int frame = 0; frame < mates.length; frame++) {
            Due.is("mate(" + frame + ")", pages.mate(frame), mates[frame]);
        }
    }

    private static void mates() {
        row(Make.withSlots(Make.slots(0), Make.slots(1), Make.slots(2), Make.slots(3)), 1, 0, 3, 2, NONE);
        row(Make.withSlots(Make.slots(0), Make.slots(1), Make.slots(2)), 1, 0, NONE);
        row(Make.withSlots(Make.slots(0), Make.slots(0), Make.slots(2)), 2, NONE, 0);
        row(Make.withSlots(Make.slots(0), Make.slots(1, 5), Make.slots(1, 2, 5), Make.slots(0, 2)), 2, 3, 0, 1);
        row(Make.withSlots(Make.slots(0), Make.slots(0), Make.slots(0), Make.slots(1)), 3, NONE, NONE, 0);
        // FRAME 0 clashes with all: it has none, so that the others' row is lowest.
        row(Make.withSlots(Make.slots(0, 1, 2, 3), Make.slots(0), Make.slots(1), Make.slots(2), Make.slots(3)), NONE, 2, 1, 4, 3);
        // Five in a ring of those that do not CLASH, of whom one has none: any mate is less than none.
        row(Make.withSlots(Make.slots(0, 1), Make.slots(2, 3), Make.slots(0, 4), Make.slots(1, 2), Make.slots(3, 4)), 1, 0, 3, 2, NONE);
        Used pages = Make.withSlots(Make.slots(0), Make.slots(1), Make.slots(2), Make.slots(3));
        Make.closePage(pages, 0);
        row(pages, NONE, 2, 1, NONE);
        pages.fence(1, 2);
        Make.rule(pages, "meshes 0;");
        row(pages, NONE, 2, 1, NONE);
    }

    private static void otherMates() {
        Used pages = Make.withSlots(Make.slots(0), Make.slots(1));
        for (int frame : new int[] {Integer.MIN_VALUE, -2, -1, 2, 11, 12, 13, Integer.MAX_VALUE}) {
            Due.is("mate(" + frame + ")", pages.mate(frame), NONE);
        }
        Due.is("mate(1)", pages.mate(1), 0);
        pages.mesh(0, 1);
        Due.is("one FRAME has none", pages.mate(0), NONE);
        Due.is("nor one without PAGES", pages.mate(1), NONE);
    }

    private static void fewest() {
        Due.is("of none", new Used().fewest(), 0);
        Due.is("of one", Make.with(1).fewest(), 1);
        Due.is("of twelve full ones", Make.with(192).fewest(), 12);
        Used pages = Make.withSlots(Make.slots(0), Make.slots(1), Make.slots(2), Make.slots(3), Make.slots(4), Make.slots(5),
            Make.slots(6), Make.slots(7), Make.slots(8), Make.slots(9), Make.slots(10), Make.slots(11));
        Due.is("of twelve that go together", pages.fewest(), 1);
        pages.fence(0, 1);
        Make.rule(pages, "meshes 0;");
        Due.is("meshes, fences aside", pages.fewest(), 1);
        Due.is("a ring of five", Make.withSlots(Make.slots(0, 1), Make.slots(1, 2), Make.slots(2, 3), Make.slots(3, 4), Make.slots(4, 0)).fewest(), 3);
        pages = Make.withSlots(Make.slots(0), Make.slots(1), Make.slots(0, 2), Make.slots(1, 2));
        Due.is("apart", pages.fewest(), 2);
        pages.mesh(0, 1);
        Due.is("those of one FRAME stay so", pages.fewest(), 3);
        pages = Make.withSlots(Make.slots(1, 6), Make.slots(1, 2), Make.slots(3, 5, 6), Make.slots(2, 3, 5), Make.slots(0, 5), Make.slots(0, 4, 6));
        Due.is("three, though not by the first way", pages.fewest(), 3);
        pages = Make.withSlots(Make.slots(0, 2, 7), Make.slots(0, 1, 3), Make.slots(0, 4, 5), Make.slots(1, 6, 7), Make.slots(3, 5),
            Make.slots(2, 3, 7), Make.slots(3, 6));
        Due.is("four, though not by the first way", pages.fewest(), 4);
    }

    private static void would() {
        Due.is("of none", new Used().would(), 0);
        Due.is("of one", Make.with(1).would(), 0);
        Due.is("of two", Make.withSlots(Make.slots(0), Make.slots(1)).would(), 1);
        Used pages = new Used();
        four(pages);
        int x = pages.is(1);
        int would = pages.would();
        Due.is("of four", would, 2);
        Due.is("now, again", pages.would(), 2);
        Due.is("X as it was", pages.is(1), x);
        Due.is("DAY", pages.is(0), 0);
        Due.is("as it would", pages.compact(), would);
    }

    private static void sparse() {
        Due.is("of none", new Used().sparse(), 0);
        Used pages = Make.withSlots(Make.fromTo(0, 7), Make.fromTo(0, 8), Make.fromTo(0, 9), Make.slots(15), Make.slots(14));
        Due.is("7, 8, not 9", pages.sparse(), 27);
        pages.mesh(1, 3);
        Due.is("nine in a FRAME", pages.sparse(), 17);
        pages.fence(4, 1);
        Due.is("that goes", pages.sparse(), 1);
        pages.lift();
        Due.is("LIFTED", pages.sparse(), 17);
        Due.is("full ones", Make.with(192).sparse(), 0);
        pages = Make.withSlots(Make.slots(0), Make.slots(1), Make.slots(2));
        pages.fence(0, 1);
        pages.free(0);
        Due.is("one that stays without PAGES", pages.sparse(), 4);
    }

    private static void runs() {
        Used pages = Make.withSlots(Make.slots(0), Make.slots(15), Make.slots(0, 15), Make.slots(0, 1, 14, 15), Make.slots(0, 2, 4, 6, 8, 10, 12, 14),
            Make.slots(1, 3, 5, 7, 9, 11, 13, 15), Make.fromTo(0, 16), Make.slots(3, 4, 5, 8));
        int[] runs = {1, 1, 2, 2, 8, 8, 1, 2};
        for (int page = 0; page < runs.length; page++) {
            Due.is("runs(" + page + ")", pages.runs(page), runs[page]);
        }
        for (int page : new int[] {Integer.MIN_VALUE, -2, -1, 8, 11, 12, Integer.MAX_VALUE}) {
            Due.is("runs(" + page + ")", pages.runs(page), NONE);
        }
        pages.mesh(0, 1);
        Due.is("of the PAGE, not of its FRAME", pages.runs(0), 1);
    }

    private static void longest() {
        Used pages = Make.withSlots(Make.slots(0), Make.slots(15), Make.slots(0, 15), Make.slots(0, 1, 13, 14, 15), Make.slots(0, 2, 4),
            Make.fromTo(0, 15), Make.fromTo(0, 16), Make.slots(3, 4, 5, 8, 9));
        int[] longest = {1, 1, 1, 3, 1, 15, 16, 3};
        for (int page = 0; page < longest.length; page++) {
            Due.is("longest(" + page + ")", pages.longest(page), longest[page]);
        }
        for (int page : new int[] {Integer.MIN_VALUE, -2, -1, 8, 11, 12, Integer.MAX_VALUE}) {
            Due.is("longest(" + page + ")", pages.longest(page), NONE);
        }
        pages = Make.withSlots(Make.slots(0), Make.slots(1));
        pages.mesh(0, 1);
        Due.is("of the PAGE, not of its FRAME", pages.longest(0), 1);
    }

    private static void found() {
        Used pages = Make.withSlots(Make.slots(0, 1, 3, 4, 5, 9, 14, 15), Make.fromTo(0, 16), Make.slots(15), Make.slots(0));
        Due.is("one that is LIVE", pages.find(0, 1, 1), 0);
        Due.is("one that is not", pages.find(0, 0, 1), 2);
        Due.is("from the lowest on: LIVE, then not", pages.find(0, 1, 2), 1);
        Due.is("not, then LIVE", pages.find(0, 2, 2), 2);
        Due.is("three", pages.find(0, 7, 3), 3);
        Due.is("not around", pages.find(0, 15, 4), NONE);
        Due.is("at the end", pages.find(0, 6 * 2, 4), 12);
        Due.is("the last ones", pages.find(0, 24, 5), 11);
        Due.is("all sixteen", pages.find(0, pages.page(0, 1), 16), 0);
        Due.is("others of sixteen", pages.find(0, pages.page(0, 1) - 1, 16), NONE);
        Due.is("sixteen of a full one", pages.find(1, 65535, 16), 0);
        Due.is("fifteen of a full one", pages.find(1, 32767, 15), 0);
        Due.is("none of a full one", pages.find(1, 0, 1), NONE);
        Due.is("the last SLOT", pages.find(2, 1, 1), 15);
        Due.is("fifteen that are not", pages.find(2, 0, 15), 0);
        Due.is("sixteen that are not", pages.find(2, 0, 16), NONE);
        Due.is("the last SLOT and one ahead", pages.find(2, 2, 2), 14);
        Due.is("the last SLOT and none behind", pages.find(2, 1, 2), NONE);
        Due.is("fifteen behind the first", pages.find(3, 0, 15), 1);
        pages.mesh(2, 3);
        Due.is("of the PAGE, not of its FRAME", pages.find(3, 1, 1), 0);
        Due.is("of the PAGE, not of its FRAME", pages.find(2, 1, 1), 15);
    }

    private static void otherPatterns() {
        Used pages = Make.with(20);
        Due.is("n 0", pages.find(0, 0, 0), NONE);
        Due.is("n 17", pages.find(0, 65535, 17), NONE);
        Due.is("n -1", pages.find(0, 0, -1), NONE);
        for (int n = 1; n <= 16; n++) {
            Due.is("bits of " + n, pages.find(0, (1 << n) - 1, n), 0);
            Due.is("no bits of " + n, pages.find(0, 1 << n, n), NONE);
            Due.is("no bits of " + n, pages.find(0, (2 << n) - 1, n), NONE);
            Due.is("no bits of " + n, pages.find(0, -1, n), NONE);
        }
        for (int far : new int[] {Integer.MIN_VALUE, Integer.MAX_VALUE, 32, 33}) {
            Due.is("n " + far, pages.find(0, 1, far), NONE);
            Due.is("n " + far, pages.find(0, 0, far), NONE);
        }
        Due.is("the least pattern of all", pages.find(0, Integer.MIN_VALUE, 16), NONE);
        Due.is("the most of all", pages.find(0, Integer.MAX_VALUE, 16), NONE);
        for (int page : new int[] {Integer.MIN_VALUE, -2, -1, 2, 11, 12, Integer.MAX_VALUE}) {
            Due.is("find(" + page + ", 0, 1)", pages.find(page, 0, 1), NONE);
            Due.is("find(" + page + ", 1, 1)", pages.find(page, 1, 1), NONE);
        }
    }

    private static void alike() {
        Used pages = Make.withSlots(Make.slots(0, 1, 15), Make.slots(1, 2, 15), Make.fromTo(0, 16), Make.slots(3));
        Due.is("same(0, 0)", pages.same(0, 0), 16);
        Due.is("same(0, 1)", pages.same(0, 1), 14);
        Due.is("same(1, 0)", pages.same(1, 0), 14);
        Due.is("same(0, 2)", pages.same(0, 2), 3);
        Due.is("same(2, 3)", pages.same(2, 3), 1);
        for (int page : new int[] {Integer.MIN_VALUE, -2, -1, 4, 11, 12, Integer.MAX_VALUE}) {
            Due.is("same(0, " + page + ")", pages.same(0, page), NONE);
            Due.is("same(" + page + ", 0)", pages.same(page, 0), NONE);
            Due.is("same(" + page + ", " + page + ")", pages.same(page, page), NONE);
        }
        pages.mesh(0, 3);
        Due.is("of PAGES, not of FRAMES", pages.same(0, 3), 12);
        pages = Make.withSlots(Make.fromTo(0, 8), Make.fromTo(8, 16));
        Due.is("none", pages.same(0, 1), 0);
    }

    private static void sums() {
        Used pages = Make.withSlots(Make.slots(0, 15), Make.slots(3), Make.fromTo(0, 16));
        pages.write(0, 999);
        pages.write(15, 998);
        Due.is("sum(0)", pages.sum(0), 1997);
        pages.write(19, 0);
        Due.is("sum(1)", pages.sum(1), 0);
        pages.mesh(0, 1);
        Due.is("its own alone", pages.sum(0), 1997);
        pages.free(15);
        Due.is("those that are LIVE", pages.sum(0), 999);
        for (int slot = 0; slot < 16; slot++) {
            pages.write(32 + slot, 999);
        }
        Due.is("sixteen of 999", pages.sum(2), 15984);
        for (int page : new int[] {Integer.MIN_VALUE, -2, -1, 3, 11, 12, Integer.MAX_VALUE}) {
            Due.is("sum(" + page + ")", pages.sum(page), NONE);
        }
        pages = Make.withSlots(Make.slots(0, 1), Make.slots(3));
        int sum = pages.sum(1);
        pages.fence(0, 1);
        Due.is("behind the fence", pages.sum(1), sum);
    }

    private static void holds() {
        Used pages = Make.with(192);
        int last = pages.at(191);
        for (int address = 0; address < 192; address++) {
            pages.write(address, 5);
        }
        Due.is("holds(5)", pages.holds(5), 0);
        Due.is("none", pages.holds(last + 500), NONE);
        pages.write(191, 999);
        pages.write(190, 0);
        Due.is("holds(999), the last ADDRESS", pages.holds(999), 191);
        Due.is("holds(0)", pages.holds(0), 190);
        pages.free(0);
        Due.is("the first that is LIVE", pages.holds(5), 1);
        pages.free(191);
        Due.is("none is LIVE", pages.holds(999), NONE);
        for (int value : new int[] {Integer.MIN_VALUE, -2, -1, 1000, 1001, Integer.MAX_VALUE}) {
            Due.is("holds(" + value + ")", pages.holds(value), NONE);
        }
        Due.is("0 in a new object", new Used().holds(0), NONE);
        pages = Make.withSlots(Make.slots(0, 2, 3), Make.slots(1));
        pages.write(17, 77);
        pages.mesh(0, 1);
        Due.is("by its own ADDRESS", pages.holds(77), 17);
    }

    private static void fullest() {
        Due.is("none", new Used().fullest(), NONE);
        Due.is("one", Make.with(1).fullest(), 0);
        Due.is("the lowest of like ones", Make.withSlots(Make.slots(0), Make.slots(1, 2), Make.slots(3, 4)).fullest(), 1);
        Due.is("the first of all", Make.with(192).fullest(), 0);
        Due.is("the last", Make.withSlots(Make.slots(0), Make.slots(1), Make.slots(3, 4)).fullest(), 2);
        Used pages = Make.withSlots(Make.slots(0, 1), Make.slots(2), Make.slots(3, 4, 5));
        pages.mesh(0, 1);
        Due.is("by the PAGE's own SLOTS", pages.fullest(), 2);
        pages = Make.withSlots(Make.slots(0), Make.slots(1, 2), Make.slots(3, 4, 5));
        pages.fence(2, 1);
        pages.free(35);
        pages.free(36);
        Due.is("those FENCED, too", pages.fullest(), 1);
        pages = Make.with(192);
        for (int page = 0; page < 11; page++) {
            pages.free(page * 16);
        }
        Due.is("page 11", pages.fullest(), 11);
    }

    private static void sound() {
        Due.is("at first", new Used().sound(), true);
        Used pages = Make.with(192);
        Due.is("full", pages.sound(), true);
        pages = Make.withSlots(Make.fromTo(0, 8), Make.fromTo(8, 15), Make.slots(15));
        pages.fence(0, 1);
        Due.is("fenced", pages.sound(), true);
        for (int i = 0; i < 7; i++) {
            pages.give(1);
            pages.move();
            Due.is("in between", pages.sound(), true);
        }
        pages.day(60);
        Due.is("behind DAYS", pages.sound(), true);
    }

    private static void probes() {
        Used pages = new Used();
        Due.is("without a TEXT", pages.probes(), 3);
        Make.rule(pages, "probes time;");
        Due.is("on DAY 0", pages.probes(), 0);
        pages.day(11);
        Due.is("on DAY 11", pages.probes(), 11);
        pages.day(1);
        Due.is("on DAY 12", pages.probes(), 12);
        pages.day(1);
        Due.is("on DAY 13", pages.probes(), 12);
        Make.rule(pages, "probes 0-time;");
        Due.is("below 0", pages.probes(), 0);
        pages.by(NONE);
        Due.is("by none", pages.probes(), 3);
    }

    private static void meshes() {
        Used pages = Make.withSlots(Make.slots(0, 1), Make.slots(1), Make.slots(2));
        Due.is("without a TEXT, CLASHES aside", pages.meshes(0, 1), true);
        Due.is("one with itself", pages.meshes(0, 0), true);
        for (int page : new int[] {Integer.MIN_VALUE, -2, -1, 3, 11, 12, Integer.MAX_VALUE}) {
            Due.is("meshes(0, " + page + ")", pages.meshes(0, page), false);
            Due.is("meshes(" + page + ", 0)", pages.meshes(page, 0), false);
            Due.is("meshes(" + page + ", " + page + ")", pages.meshes(page, page), false);
        }
        Make.rule(pages, "meshes one-other;");
        Due.is("2 - 1", pages.meshes(0, 1), true);
        Due.is("1 - 2", pages.meshes(1, 0), false);
        Due.is("1 - 1", pages.meshes(1, 2), false);
        pages.by(NONE);
        pages.mesh(1, 2);
        pages.by(0);
        Due.is("by FRAMES: 2 - 2", pages.meshes(0, 1), false);
        pages.free(0);
        Due.is("by FRAMES: 2 - 1", pages.meshes(2, 0), true);
        pages = Make.withSlots(Make.slots(0, 1), Make.slots(2));
        pages.fence(0, 1);
        Due.is("fences aside", pages.meshes(0, 1), true);
    }
}
