/** Promises 7 to 18, parts I and V: a test for each sentence that names a boundary. */
public final class DoingEdgesTest {
    private static final int NONE = Used.NONE;

    public static void main(String[] args) {
        Due.sentence("7: 0 .. 999", DoingEdgesTest::valuesGiven);
        Due.sentence("7: the lowest PAGE that has a SLOT to give out", DoingEdgesTest::lowestPage);
        Due.sentence("7: not FENCED", DoingEdgesTest::fencedGivesNone);
        Due.sentence("7: the first one in its VECTOR", DoingEdgesTest::firstInVector);
        Due.sentence("7: LIVE in no PAGE of its FRAME", DoingEdgesTest::liveInNoPage);
        Due.sentence("7: nor in any of the FRAME that goes", DoingEdgesTest::liveInNoPageThatGoes);
        Due.sentence("7: the lowest NEW PAGE in the lowest FRAME without PAGES", DoingEdgesTest::lowestNew);
        Due.sentence("7: maybe one that stays", DoingEdgesTest::openedInOneThatStays);
        Due.sentence("7: no room", DoingEdgesTest::noRoom);
        Due.sentence("7: its VECTOR, k from 15 down to 1, X behind it", DoingEdgesTest::vectors);
        Due.sentence("7: a VECTOR when a PAGE is opened again", DoingEdgesTest::vectorAgain);
        Due.sentence("8: an ADDRESS that is LIVE is so no more", DoingEdgesTest::freed);
        Due.sentence("8: a PAGE without any is CLOSED", DoingEdgesTest::closed);
        Due.sentence("8: not FENCED", DoingEdgesTest::fencedNotFreed);
        Due.sentence("9: 0 .. 999", DoingEdgesTest::valuesWritten);
        Due.sentence("9: not FENCED", DoingEdgesTest::fencedNotWritten);
        Due.sentence("10: no more there than here", DoingEdgesTest::noMoreThere);
        Due.sentence("10: SLOTS of FRAMES, not of PAGES", DoingEdgesTest::byFrames);
        Due.sentence("10: all PAGES of the FRAME that goes", DoingEdgesTest::allPagesGo);
        Due.sentence("10: meshes letting it, the first one's FRAME as one", DoingEdgesTest::lawOfMesh);
        Due.sentence("10: what can't be MESHED", DoingEdgesTest::cantMesh);
        Due.sentence("11: likewise", DoingEdgesTest::fencedLikewise);
        Due.sentence("11: one pair at a time", DoingEdgesTest::onePair);
        Due.sentence("12: how many are yet to be copied", DoingEdgesTest::moved);
        Due.sentence("12: nothing is FENCED", DoingEdgesTest::nothingToMove);
        Due.sentence("12: into a FRAME that stays without PAGES", DoingEdgesTest::movedIntoEmpty);
        Due.sentence("13: none are FENCED any more, nothing is MESHED", DoingEdgesTest::lifted);
        Due.sentence("14: always something done", DoingEdgesTest::compactedNothing);
        Due.sentence("14: 8 or fewer SLOTS", DoingEdgesTest::sparseSlots);
        Due.sentence("14: the draws of a row", DoingEdgesTest::drawsOfRow);
        Due.sentence("14: the first half (cut), one more is in neither", DoingEdgesTest::oddRow);
        Due.sentence("14: below probes, around", DoingEdgesTest::around);
        Due.sentence("14: if neither has been MESHED in this", DoingEdgesTest::onceEach);
        Due.sentence("14: the right one at j and i, around", DoingEdgesTest::jAndI);
        Due.sentence("14: the left one first", DoingEdgesTest::leftFirst);
        Due.sentence("14: probes as all is ahead", DoingEdgesTest::probesAhead);
        Due.sentence("15: 1 .. 60", DoingEdgesTest::daysPass);
        Due.sentence("15: 0 to 3, 4 to 6, 7", DoingEdgesTest::lots);
        Due.sentence("15: by how many, from the lowest on", DoingEdgesTest::drawnAddress);
        Due.sentence("15: each if it can be", DoingEdgesTest::ifItCanBe);
        Due.sentence("15: COMPACTED in a DAY", DoingEdgesTest::compactedInADay);
        Due.sentence("15: beyond 9999", DoingEdgesTest::beyondLast);
        Due.sentence("15: a day's lines", DoingEdgesTest::linesOfDays);
        Due.sentence("16: -2 for others", DoingEdgesTest::otherTexts);
        Due.sentence("16: its number among all CLAUSES", DoingEdgesTest::numberOfClause);
        Due.sentence("16: what was done stays", DoingEdgesTest::doneStays);
        Due.sentence("16: of so many DAYS those that can pass do", DoingEdgesTest::daysOfClause);
        Due.sentence("17: 0 .. 9999, 1 .. 40", DoingEdgesTest::yearsTaken);
        Due.sentence("17: if it can pass", DoingEdgesTest::yearsAtTheLast);
        Due.sentence("17: it is one STEP", DoingEdgesTest::yearsOneStep);
        Due.sentence("18: there is none", DoingEdgesTest::nothingToUndo);
        Due.sentence("18: the latest 30", DoingEdgesTest::thirtySteps);
        Due.sentence("18: the latest first, around", DoingEdgesTest::stepsAround);
        Due.sentence("18: all of I is as ahead of it", DoingEdgesTest::allAsAhead);
        Due.sentence("18: what is no STEP", DoingEdgesTest::noSteps);
        Due.end();
    }

    private static void valuesGiven() {
        Used pages = new Used();
        for (int value : new int[] {0, 1, 998, 999}) {
            int address = pages.give(value);
            Due.holds("give(" + value + ")", address != NONE);
            Due.is("at", pages.at(address), value);
        }
        Due.is("give(-1)", pages.give(-1), NONE);
        Due.is("give(1000)", pages.give(1000), NONE);
        Due.is("is(3)", pages.is(3), 4);
    }

    private static void lowestPage() {
        Used pages = Make.with(40);
        int first = pages.vector(0, 3);
        int second = pages.vector(1, 9);
        pages.free(16 + second);
        pages.free(first);
        Due.is("the lowest", pages.give(1), first);
        Due.is("then the next", pages.give(1), 16 + second);
        Due.is("then the third", pages.give(1), 32 + pages.vector(2, 8));
    }

    private static void fencedGivesNone() {
        Used pages = Make.withSlots(Make.slots(3), Make.slots(0, 1));
        Due.is("fence(0, 1): page 0 has fewer", pages.fence(0, 1), 1);
        Due.is("page 0 is FENCED", pages.page(0, 3), 1);
        Due.is("it gives none", pages.page(0, 4), NONE);
        for (int i = 0; i < 13; i++) {
            Due.is("page 1 gives", pages.give(1) / 16, 1);
        }
        Due.is("page 1 has all but that of page 0", pages.page(1, 1), 65535 & ~8);
        Due.is("then a NEW one", pages.give(1) / 16, 2);
        pages.lift();
        Due.is("LIFTED, page 0 gives again", pages.give(1) / 16, 0);
    }

    private static void firstInVector() {
        Used pages = Make.with(16);
        int[] order = {11, 2, 7, 15, 0};
        for (int i : order) {
            pages.free(pages.vector(0, i));
        }
        for (int i : new int[] {0, 2, 7, 11, 15}) {
            int slot = pages.vector(0, i);
            Due.is("page(0, 4)", pages.page(0, 4), slot);
            Due.is("give", pages.give(i), slot);
        }
        Due.is("it is full", pages.page(0, 4), NONE);
    }

    private static void liveInNoPage() {
        Used pages = Make.withSlots(Make.slots(0, 1), Make.slots(2, 3), Make.slots(4));
        pages.mesh(0, 1);
        pages.mesh(1, 2);
        for (int i = 0; i < 11; i++) {
            int address = pages.give(900 + i);
            Due.holds("of page 0, none of the others' SLOTS: " + address, address > 4 && address < 16);
        }
        Due.is("page 0", pages.page(0, 4), NONE);
        Due.is("page 1, in one FRAME with it", pages.page(1, 4), NONE);
        Due.is("all SLOTS of the FRAME are LIVE", pages.frame(0, 1), 65535);
        Due.is("sound()", pages.sound(), true);
        Due.is("a NEW one gives", pages.give(1) / 16, 3);
        pages.free(32 + 4);
        Due.is("what is free again gives page 0", pages.give(2), 4);
    }

    private static void liveInNoPageThatGoes() {
        Used pages = Make.withSlots(Make.fromTo(0, 13), Make.slots(13, 14), Make.slots(0));
        pages.fence(0, 1);
        Due.is("the one that is free in both", pages.give(5), 15);
        Due.is("then page 2 gives", pages.give(5) / 16, 2);
        Due.is("page 0 has none", pages.page(0, 4), NONE);
        pages.move();
        Due.is("copied or not", pages.page(0, 4), NONE);
        pages.lift();
        Due.holds("LIFTED it has two", pages.page(0, 4) == 13 || pages.page(0, 4) == 14);
        pages = Make.withSlots(Make.fromTo(0, 13), Make.slots(13), Make.slots(14, 15));
        pages.mesh(1, 2);
        Due.is("two PAGES go", pages.fence(0, 1), 3);
        Due.is("in any of that FRAME", pages.page(0, 4), NONE);
        Due.is("a PAGE of the one that goes", pages.page(2, 4), NONE);
        Due.is("a NEW one is OPENED", pages.give(1) / 16, 3);
    }

    private static void lowestNew() {
        Used pages = Make.with(64);
        Make.closePage(pages, 2);
        Make.closePage(pages, 1);
        Due.is("PAGES that are OPEN", pages.is(5), 9);
        int address = pages.give(7);
        Due.is("the lowest NEW PAGE", address / 16, 1);
        Due.is("in the lowest FRAME", pages.page(1, 0), 1);
        Make.line(pages, Make.lastLine(pages), 0, 0, 1, 1);
        pages = Make.withSlots(Make.slots(0), Make.slots(1, 2));
        pages.mesh(0, 1);
        Due.is("page 0 went to FRAME 1", pages.page(0, 0), 1);
        for (int i = 0; i < 13; i++) {
            pages.give(1);
        }
        Due.is("page 2", pages.give(1) / 16, 2);
        Due.is("in FRAME 0", pages.page(2, 0), 0);
        Make.line(pages, Make.lastLine(pages), 0, 0, 2, 0);
    }

    private static void openedInOneThatStays() {
        Used pages = Make.withSlots(Make.slots(1, 6), Make.slots(10), Make.slots(0));
        pages.fence(0, 1);
        pages.free(1);
        pages.free(6);
        Due.is("page 0 is NEW", pages.page(0, 0), NONE);
        for (int i = 0; i < 15; i++) {
            Due.is("page 2 gives", pages.give(1) / 16, 2);
        }
        int x = pages.is(1);
        int address = pages.give(9);
        Due.is("page 0 is OPENED", address / 16, 0);
        Due.is("in the FRAME that stays", pages.page(0, 0), 0);
        Due.holds("by draws", pages.is(1) != x);
        Due.is("it is in a FRAME that stays", pages.can(0, 2), 3);
        for (int i = 0; i < 14; i++) {
            Due.is("it gives", pages.give(9) / 16, 0);
        }
        Due.is("all but the one that comes", pages.page(0, 1), 65535 & ~(1 << 10));
        Due.is("then page 3 is OPENED", pages.give(9) / 16, 3);
        Due.is("in FRAME 3", pages.page(3, 0), 3);
        Due.is("move()", pages.move(), 0);
        Due.is("both in FRAME 0", pages.frame(0, 0), 3);
        Due.is("sound()", pages.sound(), true);
    }

    private static void noRoom() {
        Used pages = Make.with(191);
        Due.holds("the last one", pages.give(5) != NONE);
        Due.is("all are LIVE", pages.is(3), 192);
        Due.is("no room", pages.give(5), NONE);
        pages.free(77);
        Due.is("room for one", pages.give(6), 77);
        Due.is("no room", pages.give(5), NONE);
        for (int slot = 0; slot < 8; slot++) {
            pages.free(160 + slot);
            pages.free(184 + slot);
        }
        pages.mesh(10, 11);
        Due.is("a FRAME is free", pages.frame(11, 0), 0);
        Due.is("but no PAGE is NEW", pages.give(5), NONE);
        Make.closePage(pages, 11);
        Due.is("page 10 has room", pages.give(5) / 16, 10);
    }

    private static void vectors() {
        Used pages = new Used();
        int x = 503;
        int[][] vectors = new int[12][16];
        for (int page = 0; page < 12; page++) {
            for (int i = 0; i < 16; i++) {
                vectors[page][i] = i;
            }
            for (int k = 15; k >= 1; k--) {
                int other = x % (k + 1);
                x = Make.nextX(x);
                int slot = vectors[page][k];
                vectors[page][k] = vectors[page][other];
                vectors[page][other] = slot;
            }
            for (int i = 0; i < 16; i++) {
                Due.is("give", pages.give(page), page * 16 + vectors[page][i]);
            }
            Due.is("X", pages.is(1), x);
        }
        for (int page = 0; page < 12; page++) {
            for (int i = 0; i < 16; i++) {
                Due.is("vector(" + page + ", " + i + ")", pages.vector(page, i), vectors[page][i]);
            }
        }
    }

    private static void vectorAgain() {
        Used pages = Make.with(1);
        int x = pages.is(1);
        pages.free(1);
        Due.is("closing draws nothing", pages.is(1), x);
        pages.give(1);
        int[] again = new int[16];
        for (int i = 0; i < 16; i++) {
            again[i] = i;
        }
        for (int k = 15; k >= 1; k--) {
            int other = x % (k + 1);
            x = Make.nextX(x);
            int slot = again[k];
            again[k] = again[other];
            again[other] = slot;
        }
        for (int i = 0; i < 16; i++) {
            Due.is("vector(0, " + i + "), from 0 .. 15 anew", pages.vector(0, i), again[i]);
        }
        Due.is("X", pages.is(1), x);
    }

    private static void freed() {
        Used pages = Make.with(192);
        for (int address : new int[] {0, 1, 15, 16, 190, 191}) {
            int value = pages.at(address);
            Due.holds("it is LIVE", value != NONE);
            Due.is("its VALUE", pages.free(address), value);
            Due.is("no more", pages.at(address), NONE);
            Due.is("free again", pages.free(address), NONE);
        }
        Due.is("is(3)", pages.is(3), 186);
        Due.is("free(-1)", pages.free(-1), NONE);
        Due.is("free(192)", pages.free(192), NONE);
        Due.is("free in a NEW PAGE", new Used().free(0), NONE);
    }

    private static void closed() {
        Used pages = Make.withSlots(Make.slots(0, 1), Make.slots(2, 3));
        int lines = pages.book(NONE, 0);
        pages.free(0);
        Due.is("one is LIVE yet", pages.page(0, 0), 0);
        Due.is("no line", pages.book(NONE, 0), lines);
        pages.mesh(1, 0);
        Due.is("page 0 in FRAME 1", pages.page(0, 0), 1);
        pages.free(1);
        Due.is("NEW again", pages.page(0, 0), NONE);
        Due.is("no VECTOR", pages.vector(0, 0), NONE);
        Due.is("the other one is in the FRAME", pages.frame(1, 0), 2);
        Make.line(pages, Make.lastLine(pages), 0, 1, 0, 1);
        pages.free(18);
        pages.free(19);
        Due.is("FRAMES with PAGES", pages.is(2), 0);
        Make.line(pages, Make.lastLine(pages), 0, 1, 1, 1);
    }

    private static Used fencedPages() {
        Used pages = Make.withSlots(Make.slots(0, 1, 2), Make.slots(3), Make.slots(4));
        pages.mesh(1, 2);
        Due.is("fence(0, 1)", pages.fence(0, 1), 2);
        return pages;
    }

    private static void fencedNotFreed() {
        Used pages = fencedPages();
        Due.is("free of the one that goes", pages.free(19), NONE);
        Due.is("free of the other PAGE of it", pages.free(36), NONE);
        pages.move();
        Due.is("free of what was copied", pages.free(19), NONE);
        Due.holds("free of the one that stays", pages.free(0) != NONE);
        Due.is("is(3)", pages.is(3), 4);
        pages.move();
        Due.holds("MESHED it can be freed", pages.free(19) != NONE);
        pages = fencedPages();
        pages.lift();
        Due.holds("LIFTED it can be freed", pages.free(19) != NONE);
    }

    private static void valuesWritten() {
        Used pages = Make.with(192);
        for (int address : new int[] {0, 191}) {
            for (int value : new int[] {0, 1, 998, 999}) {
                Due.is("write(" + address + ", " + value + ")", pages.write(address, value), true);
                Due.is("at(" + address + ")", pages.at(address), value);
            }
            Due.is("write of -1", pages.write(address, -1), false);
            Due.is("write of 1000", pages.write(address, 1000), false);
            Due.is("as it was", pages.at(address), 999);
        }
        Due.is("write(-1, 1)", pages.write(-1, 1), false);
        Due.is("write(192, 1)", pages.write(192, 1), false);
        pages.free(5);
        Due.is("write of what is not LIVE", pages.write(5, 1), false);
        Due.is("write in a NEW PAGE", new Used().write(0, 1), false);
        pages = Make.withSlots(Make.slots(0), Make.slots(1));
        pages.mesh(0, 1);
        Due.is("write(1, 5): LIVE in page 1 alone", pages.write(1, 5), false);
        int other = pages.at(0);
        Due.is("write(17, 5)", pages.write(17, 5), true);
        Due.is("at(17)", pages.at(17), 5);
        Due.is("the other one's", pages.at(0), other);
    }

    private static void fencedNotWritten() {
        Used pages = fencedPages();
        int value = pages.at(19);
        Due.is("write of the one that goes", pages.write(19, 5), false);
        Due.is("write of the other PAGE of it", pages.write(36, 5), false);
        pages.move();
        Due.is("write of what was copied", pages.write(19, 5), false);
        Due.is("at(19)", pages.at(19), value);
        Due.is("write of the one that stays", pages.write(0, 5), true);
        pages.move();
        Due.is("MESHED", pages.write(19, 6), true);
        Due.is("at(19)", pages.at(19), 6);
    }

    private static void noMoreThere() {
        int[][] first = {Make.slots(0, 1), Make.slots(0, 1), Make.slots(0, 1)};
        int[][] second = {Make.slots(2), Make.slots(2, 3), Make.slots(2, 3, 4)};
        for (int i = 0; i < 3; i++) {
            Used pages = Make.withSlots(first[i], second[i]);
            int mine = pages.at(1);
            int theirs = pages.at(18);
            boolean here = i < 2;
            Due.is("copied", pages.mesh(0, 1), i == 0 ? 1 : 2);
            Due.is("FRAME of page 0", pages.page(0, 0), here ? 0 : 1);
            Due.is("FRAME of page 1", pages.page(1, 0), here ? 0 : 1);
            Due.is("the one that is free", pages.frame(here ? 1 : 0, 0), 0);
            Due.is("VALUE of page 0", pages.at(1), mine);
            Due.is("VALUE of page 1", pages.at(18), theirs);
            Due.is("how often was MESHED", pages.is(4), 1);
            Make.line(pages, Make.lastLine(pages), 0, 2, here ? 0 : 1, here ? 1 : 0);
            pages = Make.withSlots(first[i], second[i]);
            here = i < 1;
            Due.is("the other way around: copied", pages.mesh(1, 0), i == 0 ? 1 : 2);
            Due.is("FRAME of page 0", pages.page(0, 0), here ? 0 : 1);
            Due.is("VALUE of page 0", pages.at(1), mine);
            Due.is("VALUE of page 1", pages.at(18), theirs);
        }
    }

    private static void byFrames() {
        Used pages = Make.withSlots(Make.slots(0), Make.slots(1, 2, 3), Make.slots(4, 5));
        Due.is("mesh(1, 0)", pages.mesh(1, 0), 1);
        Due.is("page 0's FRAME has four, page 2 two", pages.mesh(0, 2), 2);
        Due.is("page 2 goes", pages.page(2, 0), 1);
        pages = Make.withSlots(Make.slots(0, 1), Make.slots(1), Make.slots(2));
        pages.mesh(1, 2);
        Due.is("page 2 has no CLASH with page 0, its FRAME has", pages.mesh(0, 2), NONE);
        Due.is("the other way around", pages.mesh(2, 0), NONE);
    }

    private static void allPagesGo() {
        Used pages = Make.withSlots(Make.slots(0, 1, 2, 3), Make.slots(4), Make.slots(5), Make.slots(6));
        pages.mesh(1, 2);
        pages.mesh(1, 3);
        int[] values = {pages.at(20), pages.at(37), pages.at(54)};
        Due.is("three SLOTS", pages.mesh(0, 2), 3);
        Due.is("all in FRAME 0", pages.frame(0, 0), 15);
        Due.is("at(20)", pages.at(20), values[0]);
        Due.is("at(37)", pages.at(37), values[1]);
        Due.is("at(54)", pages.at(54), values[2]);
        Due.is("FRAMES with PAGES", pages.is(2), 1);
    }

    private static void lawOfMesh() {
        Used pages = Make.withSlots(Make.slots(0, 1), Make.slots(2), Make.slots(3));
        pages.mesh(1, 2);
        Make.rule(pages, "meshes one - 1;");
        Due.is("page 1's FRAME has two", pages.can(1, 0), 0);
        Make.rule(pages, "meshes one - other;");
        Due.is("two less two", pages.mesh(0, 1), NONE);
        pages.free(0);
        Due.is("one less two", pages.mesh(0, 1), NONE);
        Due.is("two less one", pages.mesh(1, 0), 1);
        pages = Make.withSlots(Make.slots(0, 1), Make.slots(2));
        Make.rule(pages, "meshes one - other;");
        Due.is("fence: one less two", pages.fence(1, 0), NONE);
        Due.is("fence: two less one", pages.fence(0, 1), 1);
    }

    private static void cantMesh() {
        Used pages = Make.withSlots(Make.slots(0, 1), Make.slots(1), Make.slots(2), Make.slots(3), Make.slots(4));
        Due.is("they CLASH", pages.mesh(0, 1), NONE);
        Due.is("one with itself", pages.mesh(2, 2), NONE);
        Due.is("a NEW one", pages.mesh(0, 5), NONE);
        Due.is("two NEW ones", pages.mesh(5, 6), NONE);
        pages.mesh(2, 3);
        Due.is("two of one FRAME", pages.mesh(3, 2), NONE);
        pages.fence(0, 2);
        Due.is("one that goes", pages.mesh(4, 2), NONE);
        Due.is("the other PAGE of it", pages.mesh(4, 3), NONE);
        Due.is("one that stays", pages.mesh(0, 4), NONE);
        Due.is("those of the fence", pages.mesh(0, 2), NONE);
        Due.is("all others can be", pages.mesh(4, 1), 1);
        Due.is("how often was MESHED", pages.is(4), 2);
    }

    private static void fencedLikewise() {
        int[][] second = {Make.slots(2), Make.slots(2, 3), Make.slots(2, 3, 4)};
        for (int i = 0; i < 3; i++) {
            Used pages = Make.withSlots(Make.slots(0, 1), second[i]);
            int goes = i < 2 ? 1 : 0;
            Due.is("to be copied", pages.fence(0, 1), i == 0 ? 1 : 2);
            Due.is("the FRAME that goes", pages.about(5), goes);
            Due.is("page 0", pages.page(0, 3), goes == 0 ? 1 : 0);
            Due.is("page 1", pages.page(1, 3), goes == 1 ? 1 : 0);
            Due.is("page 2, NEW", pages.page(2, 3), 0);
            Due.is("each in its FRAME", pages.page(0, 0) * 2 + pages.page(1, 0), 1);
            Due.is("not yet MESHED", pages.is(4), 0);
            Make.line(pages, Make.lastLine(pages), 0, 3, goes, 1 - goes);
        }
        Used pages = Make.withSlots(Make.slots(0, 1), Make.slots(1), Make.slots(2), Make.slots(3));
        Due.is("they CLASH", pages.fence(0, 1), NONE);
        Due.is("one with itself", pages.fence(0, 0), NONE);
        Due.is("a NEW one", pages.fence(0, 4), NONE);
        Due.is("a NEW one first", pages.fence(4, 0), NONE);
        Due.is("fence(0, 12)", pages.fence(0, 12), NONE);
        Due.is("fence(-1, 0)", pages.fence(-1, 0), NONE);
        pages.mesh(2, 3);
        Due.is("two of one FRAME", pages.fence(3, 2), NONE);
        Due.is("two PAGES go", pages.fence(0, 3), 2);
        Due.is("page 2 is FENCED", pages.page(2, 3), 1);
        Due.is("page 3 is FENCED", pages.page(3, 3), 1);
    }

    private static void onePair() {
        Used pages = Make.withSlots(Make.slots(0), Make.slots(1), Make.slots(2), Make.slots(3));
        Due.is("fence(0, 1)", pages.fence(0, 1), 1);
        Due.is("again", pages.fence(0, 1), NONE);
        Due.is("another pair", pages.fence(2, 3), NONE);
        Due.is("which can be MESHED", pages.can(2, 3), 0);
        pages.lift();
        Due.is("LIFTED", pages.fence(2, 3), 1);
        pages.move();
        Due.is("MESHED", pages.fence(0, 1), 1);
    }

    private static void moved() {
        Used pages = Make.withSlots(Make.fromTo(0, 8), Make.fromTo(8, 16));
        int[] values = new int[8];
        for (int i = 0; i < 8; i++) {
            values[i] = pages.at(24 + i);
        }
        Due.is("all of eight", pages.fence(0, 1), 8);
        for (int left = 7; left >= 1; left--) {
            Due.is("move()", pages.move(), left);
            Due.is("about(6)", pages.about(6), left);
            Due.is("FENCED yet", pages.page(1, 3), 1);
            Due.is("page 1's FRAME", pages.page(1, 0), 1);
            Due.is("not yet MESHED", pages.is(4), 0);
        }
        Due.is("the last", pages.move(), 0);
        Due.is("MESHED", pages.is(4), 1);
        Due.is("page 1's FRAME", pages.page(1, 0), 0);
        Due.is("not FENCED", pages.page(1, 3), 0);
        Due.is("about(5)", pages.about(5), NONE);
        for (int i = 0; i < 8; i++) {
            Due.is("its VALUES", pages.at(24 + i), values[i]);
        }
        Make.line(pages, Make.lastLine(pages), 0, 2, 0, 1);
        Due.is("no more", pages.move(), NONE);
        pages = Make.withSlots(Make.slots(0, 1), Make.slots(3, 4), Make.slots(0, 1), Make.slots(3, 4));
        pages.fence(0, 1);
        pages.move();
        pages.move();
        Due.is("another pair of like SLOTS", pages.fence(2, 3), 2);
        Due.is("all are yet to be copied", pages.about(6), 2);
        int value = pages.at(51);
        Due.is("move()", pages.move(), 1);
        Due.is("move()", pages.move(), 0);
        Due.is("its VALUE", pages.at(51), value);
    }

    private static void nothingToMove() {
        Used pages = new Used();
        Due.is("move()", pages.move(), NONE);
        Due.is("lift()", pages.lift(), false);
        pages = Make.withSlots(Make.slots(0), Make.slots(1));
        Due.is("move()", pages.move(), NONE);
        pages.fence(0, 1);
        pages.lift();
        Due.is("move() of what was LIFTED", pages.move(), NONE);
        pages.fence(0, 1);
        Due.is("one SLOT", pages.move(), 0);
        Due.is("move() of what was MESHED", pages.move(), NONE);
        Due.is("lift() of what was MESHED", pages.lift(), false);
    }

    private static void movedIntoEmpty() {
        Used pages = Make.withSlots(Make.slots(1, 2), Make.slots(10, 11));
        int value = pages.at(26);
        pages.fence(0, 1);
        pages.free(1);
        pages.free(2);
        Due.is("the one that stays has no PAGES", pages.frame(0, 0), 0);
        Due.is("page 1 is FENCED yet", pages.page(1, 3), 1);
        Due.is("about(5)", pages.about(5), 1);
        Due.is("move()", pages.move(), 1);
        Due.is("move()", pages.move(), 0);
        Due.is("page 1", pages.page(1, 0), 0);
        Due.is("its VALUE", pages.at(26), value);
        Due.is("MESHED", pages.is(4), 1);
        Make.line(pages, Make.lastLine(pages), 0, 2, 0, 1);
    }

    private static void lifted() {
        Used pages = Make.withSlots(Make.slots(0, 1, 2), Make.slots(3, 4, 5));
        Due.is("lift() of none", pages.lift(), false);
        pages.fence(0, 1);
        pages.move();
        pages.move();
        Due.is("lift()", pages.lift(), true);
        Due.is("page 1's FRAME", pages.page(1, 0), 1);
        Due.is("not FENCED", pages.page(1, 3), 0);
        Due.is("not MESHED", pages.is(4), 0);
        Due.is("about(5)", pages.about(5), NONE);
        Make.line(pages, Make.lastLine(pages), 0, 4, 1, 0);
        Due.is("lift() again", pages.lift(), false);
        Due.is("all are to be copied again", pages.fence(0, 1), 3);
        pages.write(0, 5);
        Due.is("move()", pages.move(), 2);
        pages.lift();
        pages.write(19, 77);
        pages.fence(0, 1);
        for (int left = 2; left >= 0; left--) {
            Due.is("move()", pages.move(), left);
        }
        Due.is("what was written in between is copied", pages.at(19), 77);
        pages = Make.withSlots(Make.slots(0, 1, 2), Make.slots(3));
        pages.fence(0, 1);
        pages.lift();
        Due.is("they can be MESHED", pages.can(0, 1), 0);
        Due.is("page 1 gives again", pages.page(1, 4) != NONE, true);
    }

    private static void compactedNothing() {
        Used pages = new Used();
        Due.is("of none", pages.compact(), 0);
        Due.is("a STEP", pages.about(2), 1);
        Due.is("no draws", pages.is(1), 503);
        pages = Make.with(1);
        int x = pages.is(1);
        Due.is("of one", pages.compact(), 0);
        Due.is("a STEP", pages.about(2), 2);
        Due.is("no draws", pages.is(1), x);
        pages = new Used();
        Due.is("a DAY that compacts nothing: 503 by 8 leaves 7", pages.day(1), 1);
    }

    private static void sparseSlots() {
        Used pages = Make.withSlots(Make.fromTo(0, 8), Make.fromTo(8, 16));
        Due.is("eight and eight", pages.compact(), 1);
        pages = Make.withSlots(Make.fromTo(0, 9), Make.fromTo(9, 16));
        int x = pages.is(1);
        Due.is("nine and seven", pages.compact(), 0);
        Due.is("one in the row: no draws", pages.is(1), x);
        pages = Make.withSlots(Make.fromTo(0, 4), Make.fromTo(4, 9), Make.slots(9), Make.slots(10));
        pages.mesh(0, 1);
        Due.is("nine in two PAGES of a FRAME", pages.sparse(), 12);
        pages = Make.withSlots(Make.slots(0), Make.slots(1), Make.slots(2), Make.slots(3));
        pages.fence(0, 1);
        x = pages.is(1);
        Due.is("neither goes nor stays", pages.compact(), 1);
        Due.is("a row of two: one draw", pages.is(1), Make.nextX(x));
        Due.is("they are of the fence yet", pages.about(5), 1);
    }

    /** The row of so many frames, that are sparse, by the draws from X on. */
    private static int[] drawnRow(int count, int x) {
        int[] row = new int[count];
        for (int i = 0; i < count; i++) {
            row[i] = i;
        }
        for (int k = count - 1; k >= 1; k--) {
            int other = x % (k + 1);
            x = Make.nextX(x);
            int frame = row[k];
            row[k] = row[other];
            row[other] = frame;
        }
        return row;
    }

    private static void drawsOfRow() {
        for (int count = 0; count <= 12; count++) {
            int[][] slots = new int[count][];
            for (int i = 0; i < count; i++) {
                slots[i] = Make.slots(i);
            }
            Used pages = Make.withSlots(slots);
            int x = pages.is(1);
            int[] row = drawnRow(count, x);
            for (int k = count - 1; k >= 1; k--) {
                x = Make.nextX(x);
            }
            Due.is("half of " + count, pages.compact(), count / 2);
            Due.is("draws of " + count, pages.is(1), x);
            for (int j = 0; j < count / 2; j++) {
                Due.is("the left one's FRAME", pages.page(row[j], 0), row[j]);
                Due.is("the right one's", pages.page(row[count / 2 + j], 0), row[j]);
            }
            if (count % 2 == 1) {
                Due.is("the last one of the row", pages.page(row[count - 1], 0), row[count - 1]);
            }
        }
    }

    private static void oddRow() {
        Used pages = Make.withSlots(Make.slots(0), Make.slots(1), Make.slots(2));
        int[] row = drawnRow(3, pages.is(1));
        Due.is("one pair of three", pages.compact(), 1);
        Due.is("one is in neither", pages.frame(row[2], 0), 1 << row[2]);
        pages = Make.with(48);
        row = drawnRow(3, pages.is(1));
        int[][] slots = new int[3][];
        slots[row[0]] = Make.slots(0);
        slots[row[1]] = Make.slots(0);
        slots[row[2]] = Make.slots(1);
        Make.freeOthers(pages, slots);
        Due.is("left and right CLASH, the third would not", pages.compact(), 0);
    }

    /** Four pages, so that left and right ones by the draws have these slots. */
    private static Used inRow(int[] left0, int[] left1, int[] right0, int[] right1) {
        Used pages = Make.with(64);
        int[] row = drawnRow(4, pages.is(1));
        int[][] slots = new int[4][];
        slots[row[0]] = left0;
        slots[row[1]] = left1;
        slots[row[2]] = right0;
        slots[row[3]] = right1;
        Make.freeOthers(pages, slots);
        return pages;
    }

    private static void around() {
        for (int probes = 0; probes <= 3; probes++) {
            Used pages = inRow(Make.slots(0, 1), Make.slots(2), Make.slots(0), Make.slots(1, 2));
            int x = pages.is(1);
            Make.rule(pages, "probes " + probes + ";");
            Due.is("left 1 with right 0, by " + probes, pages.compact(), probes >= 2 ? 1 : 0);
            Due.is("three draws, by any probes", pages.is(1), Make.nextX(Make.nextX(Make.nextX(x))));
            pages = inRow(Make.slots(0), Make.slots(1, 2), Make.slots(0, 1), Make.slots(1));
            Make.rule(pages, "probes " + probes + ";");
            Due.is("left 0 with right 1, by " + probes, pages.compact(), probes >= 2 ? 1 : 0);
            pages = inRow(Make.slots(0), Make.slots(0, 1), Make.slots(1), Make.slots(0));
            Make.rule(pages, "probes " + probes + ";");
            Due.is("left 0 with right 0, by " + probes, pages.compact(), probes >= 1 ? 1 : 0);
            pages = inRow(Make.slots(0, 1), Make.slots(1), Make.slots(1), Make.slots(0));
            Make.rule(pages, "probes " + probes + ";");
            Due.is("left 1 with right 1, by " + probes, pages.compact(), probes >= 1 ? 1 : 0);
            pages = inRow(Make.slots(0), Make.slots(0), Make.slots(0), Make.slots(1));
            Make.rule(pages, "probes " + probes + ";");
            Due.is("right 1 with left 1 ahead of left 0, by " + probes, pages.compact(), probes >= 1 ? 1 : 0);
        }
        Used pages = inRow(Make.slots(0), Make.slots(0), Make.slots(0), Make.slots(1));
        int[] row = drawnRow(4, pages.is(1));
        pages.compact();
        Due.is("at i 0 right 1 went to left 1", pages.page(row[3], 0), row[1]);
    }

    private static void onceEach() {
        Used pages = inRow(Make.slots(0), Make.slots(1, 2), Make.slots(1), Make.slots(2));
        Make.rule(pages, "probes 12;");
        Due.is("left 0 but once", pages.compact(), 1);
        Due.is("FRAMES with PAGES", pages.is(2), 3);
        pages = inRow(Make.slots(0), Make.slots(2), Make.slots(1), Make.slots(2, 3));
        Make.rule(pages, "probes 12;");
        Due.is("right 0 but once", pages.compact(), 1);
        pages = inRow(Make.slots(0), Make.slots(2), Make.slots(1, 5), Make.slots(2, 3));
        Make.rule(pages, "probes 12;");
        Due.is("right 0 but once, which stays", pages.compact(), 1);
        pages = inRow(Make.slots(0, 5), Make.slots(1, 2), Make.slots(1), Make.slots(2));
        Make.rule(pages, "probes 12;");
        Due.is("left 0 but once, which stays", pages.compact(), 1);
        Due.is("it can be another time", pages.is(2), 3);
        pages = inRow(Make.slots(0), Make.slots(1), Make.slots(2), Make.slots(3));
        Make.rule(pages, "probes 12;");
        Due.is("two pairs", pages.compact(), 2);
        Due.is("FRAMES with PAGES", pages.is(2), 2);
    }

    private static void jAndI() {
        for (int half = 1; half <= 4; half++) {
            for (int left = 0; left < half; left++) {
                for (int right = 0; right < half; right++) {
                    onePairOf(half, left, right);
                }
            }
        }
    }

    /** But one left and one right one do not clash: they are probed when i is so many behind j. */
    private static void onePairOf(int half, int left, int right) {
        int due = (right - left + half) % half;
        for (int probes = due; probes <= due + 1; probes++) {
            Used pages = Make.with(32 * half);
            int[] row = drawnRow(2 * half, pages.is(1));
            int[][] slots = new int[2 * half][];
            for (int i = 0; i < 2 * half; i++) {
                slots[row[i]] = i == left ? Make.slots(0) : i == half + right ? Make.slots(1) : Make.slots(0, 1);
            }
            Make.freeOthers(pages, slots);
            Make.rule(pages, "probes " + probes + ";");
            Due.is("left " + left + " with right " + right + " of " + half + " by " + probes, pages.compact(), probes - due);
            Due.is("the left one stays", pages.page(row[half + right], 0), row[probes > due ? left : half + right]);
        }
    }

    private static void leftFirst() {
        Used pages = Make.with(32);
        int[] row = drawnRow(2, pages.is(1));
        int[][] slots = new int[2][];
        slots[row[0]] = Make.slots(0, 1);
        slots[row[1]] = Make.slots(2);
        Make.freeOthers(pages, slots);
        Make.rule(pages, "meshes one - other;");
        Due.is("the left one is one", pages.would(), 1);
        Make.rule(pages, "meshes other - one;");
        Due.is("the right one is other", pages.would(), 0);
        pages.by(NONE);
        pages.free(row[0] * 16);
        pages.compact();
        Due.is("as many: the right one goes", pages.is(2) * 100 + pages.page(row[1], 0), 100 + row[0]);
        pages = Make.with(32);
        row = drawnRow(2, pages.is(1));
        slots[row[0]] = Make.slots(0);
        slots[row[1]] = Make.slots(2, 3);
        Make.freeOthers(pages, slots);
        Due.is("compact()", pages.compact(), 1);
        Due.is("more there: the left one goes", pages.page(row[0], 0), row[1]);
    }

    private static void probesAhead() {
        Used pages = Make.withSlots(Make.slots(0), Make.slots(1), Make.slots(2), Make.slots(3));
        Make.rule(pages, "probes frames-3;");
        Due.is("one probe, though FRAMES grow fewer", pages.compact(), 2);
        pages = Make.with(96);
        int[] row = drawnRow(6, pages.is(1));
        int[][] slots = new int[6][];
        for (int i = 0; i < 6; i++) {
            slots[row[i]] = i < 2 ? Make.slots(0) : i == 3 || i == 5 ? Make.slots(1) : Make.slots(0, 1);
        }
        Make.freeOthers(pages, slots);
        Make.rule(pages, "probes sparse - 4;");
        Due.is("left 0 with right 0, left 1 with right 2 by the second probe, though sparse ones grow fewer", pages.compact(), 2);
        pages = Make.withSlots(Make.slots(0), Make.slots(1), Make.slots(2), Make.slots(3));
        Make.rule(pages, "meshes frames-3;");
        Due.is("but meshes is asked as all is then", pages.compact(), 1);
    }

    private static void daysPass() {
        Used pages = new Used();
        Due.is("day(0)", pages.day(0), NONE);
        Due.is("day(61)", pages.day(61), NONE);
        Due.is("day(-1)", pages.day(-1), NONE);
        Due.is("none passed", pages.is(0), 0);
        Due.holds("day(1)", pages.day(1) >= 0);
        Due.is("DAY", pages.is(0), 1);
        Due.holds("day(60)", pages.day(60) >= 0);
        Due.is("DAY", pages.is(0), 61);
        Due.holds("day(59)", pages.day(59) >= 0);
        Due.is("DAY", pages.is(0), 120);
    }

    private static void lots() {
        int seen = 0;
        for (int seed = 0; seed < 40; seed++) {
            Used pages = Make.withSlots(Make.slots(0, 1), Make.slots(2, 3));
            pages.years(seed, 1 + seed % 5);
            int x = pages.is(1);
            int lot = x % 8;
            int live = pages.is(3);
            int often = pages.is(4);
            Due.is("something is done by " + lot, pages.day(1), 1);
            if (lot <= 3) {
                Due.is("given out by " + lot, pages.is(3), live + 1);
                Due.holds("a VALUE drawn by 1000", pages.holds(Make.nextX(x) % 1000) != NONE);
            } else if (lot <= 6) {
                Due.is("freed by " + lot, pages.is(3), live - 1);
                Due.is("two draws", pages.is(1), Make.nextX(Make.nextX(x)));
            } else {
                Due.is("compacted by 7", pages.is(3), live);
                Due.holds("how often", pages.is(4) >= often);
            }
            seen |= 1 << lot;
        }
        Due.is("all lots were seen", seen, 255);
    }

    /** X is one that no draw by hand has led to: years whose one DAY compacts, as 503 by 8 leaves 7. */
    private static void compactingDay(Used pages, int i) {
        pages.years(4 * i, 1);
        Due.is("the years' DAY compacts alone", pages.is(4), 0);
    }

    private static void drawnAddress() {
        int[] addresses = {0, 7, 16, 32, 47};
        int seen = 0;
        for (int i = 0; i < 60; i++) {
            // All have slot 0, so that nothing is meshed.
            Used pages = Make.withSlots(Make.slots(0, 7), Make.slots(0), Make.slots(0, 15));
            compactingDay(pages, i);
            int x = pages.is(1);
            if (x % 8 < 4 || x % 8 > 6) {
                continue;
            }
            int drawn = Make.nextX(x) % 5;
            Due.is("day(1)", pages.day(1), 1);
            for (int a = 0; a < 5; a++) {
                Due.is("at(" + addresses[a] + ") by " + drawn, pages.at(addresses[a]) == NONE, a == drawn);
            }
            seen |= 1 << drawn;
        }
        Due.is("all were drawn", seen, 31);
    }

    private static void ifItCanBe() {
        int seen = 0;
        for (int i = 0; i < 40; i++) {
            Used pages = new Used();
            compactingDay(pages, i);
            int x = pages.is(1);
            int lot = x % 8;
            boolean frees = lot >= 4 && lot <= 6;
            Due.is("nothing to be freed", pages.day(1), frees ? 0 : 1);
            if (frees) {
                Due.is("nothing to be freed: one draw", pages.is(1), Make.nextX(x));
            }
            Due.is("DAY is one more", pages.is(0), 2);
            seen |= 1 << lot;
            pages = Make.with(192);
            compactingDay(pages, i);
            x = pages.is(1);
            lot = x % 8;
            Due.is("no room", pages.day(1), lot <= 3 ? 0 : 1);
            Due.is("what is drawn for it is drawn", pages.is(1), lot == 7 ? Make.nextX(x) : Make.nextX(Make.nextX(x)));
            Due.is("is(3)", pages.is(3), lot <= 3 || lot == 7 ? 192 : 191);
            Due.is("a STEP all the same", pages.undo(), 29);
            Due.is("DAY", pages.is(0), 1);
            pages = Make.withSlots(Make.slots(0, 1, 2), Make.slots(3, 4));
            pages.fence(0, 1);
            compactingDay(pages, i);
            x = pages.is(1);
            lot = x % 8;
            if (lot >= 4 && lot <= 6) {
                boolean behindFence = Make.nextX(x) % 5 >= 3;
                Due.is("one behind the fence is not freed", pages.day(1), behindFence ? 0 : 1);
                Due.is("is(3)", pages.is(3), behindFence ? 5 : 4);
                Due.is("X", pages.is(1), Make.nextX(Make.nextX(x)));
                seen |= behindFence ? 256 : 512;
            }
        }
        Due.is("all lots were seen", seen, 1023);
    }

    private static void compactedInADay() {
        for (int seed = 0; seed < 40; seed += 4) {
            Used pages = Make.withSlots(Make.slots(0), Make.slots(1), Make.slots(2), Make.slots(3), Make.slots(4));
            int x = Make.nextX(seed * 2 + 503);
            int[] row = drawnRow(5, x);
            pages.years(seed, 1);
            Due.is("two pairs", pages.is(4), 2);
            for (int j = 0; j < 2; j++) {
                Due.is("left and right", pages.frame(row[j], 0), 1 << row[j] | 1 << row[2 + j]);
            }
            Due.is("one draw and four", pages.is(1), Make.nextX(Make.nextX(Make.nextX(Make.nextX(x)))));
            Make.line(pages, 5, 0, 2, row[0], row[2]);
            pages = Make.withSlots(Make.slots(0), Make.slots(1));
            Make.rule(pages, "meshes 0;");
            pages.years(seed, 1);
            Due.is("by the law that rules", pages.is(4), 0);
        }
    }

    private static void beyondLast() {
        Used pages = new Used();
        Make.passTo(pages, 9939);
        Due.holds("60 DAYS to 9999", pages.day(60) >= 0);
        Due.is("DAY", pages.is(0), 9999);
        Due.is("none can pass", pages.day(1), NONE);
        Due.is("DAY", pages.is(0), 9999);
        pages.undo();
        Due.is("two beyond 9998", pages.day(2), NONE);
        Due.is("nothing is done", pages.is(0), 9998);
        Due.holds("one", pages.day(1) >= 0);
        pages = new Used();
        Make.passTo(pages, 9940);
        Due.is("60 beyond 9940", pages.day(60), NONE);
        Due.is("DAY", pages.is(0), 9940);
        Due.holds("59", pages.day(59) >= 0);
        Due.is("DAY", pages.is(0), 9999);
        Due.holds("all but days can be done", pages.compact() >= 0);
    }

    private static void linesOfDays() {
        Used pages = new Used();
        // 505 by 8 leaves 1: given out on DAY 0.
        pages.years(1, 1);
        Make.line(pages, 0, 0, 0, 0, 0);
        pages.day(29);
        Due.is("DAY", pages.is(0), 30);
        int opened = pages.book(NONE, 0);
        Make.closePage(pages, 11);
        for (int page = 0; page < 11; page++) {
            Make.closePage(pages, page);
        }
        Due.holds("closed", pages.book(NONE, 0) > opened);
        Due.is("by hand on DAY 30", pages.book(Make.lastLine(pages), 0), 30);
    }

    private static void otherTexts() {
        Used pages = new Used();
        Due.is("played(0) of none", pages.played(0), -2);
        Make.say(pages, "give 1;");
        for (int text : new int[] {-2, -1, 1, 2, 3, 4, Integer.MIN_VALUE, Integer.MAX_VALUE}) {
            Due.is("played(" + text + ")", pages.played(text), -2);
        }
        Make.say(pages, "give");
        Due.is("one with a fault", pages.played(1), -2);
        Due.is("nothing was done", pages.is(3), 0);
        for (int text = 1; text < 4; text++) {
            Make.say(pages, "give 1;");
            Due.is("played(" + text + ")", pages.played(text), NONE);
        }
        Due.is("is(3)", pages.is(3), 3);
        Due.is("played(4)", pages.played(4), -2);
        pages.back();
        Due.is("played(0), which is no more", pages.played(0), -2);
    }

    private static void numberOfClause() {
        String[] texts = {"free 0;", "meshes 1;free 0;", "probes 1;meshes 1;free 0;", "compact;".repeat(23) + "free 0;",
            "write 1 at 5;", "compact;write 1 at 5;", "mesh 0 with 1;", "meshes 1;compact;mesh 0 with 1;",
            "give 1;give 2;free 191;give 3;"};
        int[] numbers = {0, 1, 2, 23, 0, 1, 0, 2, 2};
        for (int i = 0; i < texts.length; i++) {
            Used pages = new Used();
            Make.say(pages, texts[i]);
            Due.is("played: " + texts[i], pages.played(0), numbers[i]);
        }
        Used pages = new Used();
        Make.say(pages, "");
        Due.is("no clauses", pages.played(0), NONE);
        Make.say(pages, "meshes 0;probes 0;");
        Due.is("laws alone", pages.played(1), NONE);
        Due.is("no STEPS", pages.about(2), 0);
        Due.is("they do not rule", pages.probes(), 3);
        pages = Make.with(192);
        Make.say(pages, "compact;give 1;");
        Due.is("no room", pages.played(0), 1);
        pages = Make.withSlots(Make.slots(0), Make.slots(1));
        Make.say(pages, "meshes 1;mesh 0 with 1;");
        Make.say(pages, "meshes 0;");
        pages.by(1);
        Due.is("by the law that rules, as by hand", pages.played(0), 1);
        pages.by(0);
        pages.fence(0, 1);
        Due.is("those of a fence can't be", pages.played(0), 1);
        Make.say(pages, "write 5 at 17;free 17;");
        Due.is("nor be written", pages.played(2), 0);
        pages.lift();
        Due.is("LIFTED", pages.played(2), NONE);
    }

    private static void doneStays() {
        Used pages = new Used();
        Make.say(pages, "give 5;give 6;free 0;give 7;");
        Due.is("played(0)", pages.played(0), 2);
        Due.is("the two ahead", pages.is(3), 2);
        Due.is("are STEPS", pages.about(2), 2);
        Due.is("played(0) again", pages.played(0), 2);
        Due.is("is(3)", pages.is(3), 4);
        Due.is("undo()", pages.undo(), 3);
        Make.say(pages, "give 5;write 6 at 1;compact;day 2;free 1;");
        pages.back();
        Make.say(pages, "give 5;write 6 at 1;compact;free 1;day 3;");
        Due.is("all is done", pages.played(0), NONE);
        Due.is("each is a STEP, each DAY", pages.about(2), 7);
        Due.is("DAY", pages.is(0), 3);
    }

    private static void daysOfClause() {
        Used pages = new Used();
        Make.passTo(pages, 9997);
        pages.image();
        Make.say(pages, "give 5;day 3;give 6;");
        Make.say(pages, "day 2;");
        int live = pages.foretold(2, 1);
        Due.is("two of three can pass", pages.played(1), 1);
        Due.is("those do", pages.is(0), 9999);
        pages.undo();
        Due.is("each is a STEP", pages.is(0), 9998);
        pages.back();
        pages.day(2);
        Due.is("is(3), as foretold", pages.is(3), live);
        pages.back();
        Make.say(pages, "day 2;");
        Due.is("two of two", pages.played(1), NONE);
        Due.is("DAY", pages.is(0), 9999);
        int steps = pages.about(2);
        int x = pages.is(1);
        Due.is("none can pass", pages.played(1), 0);
        Due.is("nothing is done", pages.about(2) * 100000 + pages.is(1), steps * 100000 + x);
    }

    private static void yearsTaken() {
        Used pages = new Used();
        Due.is("years(-1, 1)", pages.years(-1, 1), NONE);
        Due.is("years(10000, 1)", pages.years(10000, 1), NONE);
        Due.is("years(0, 0)", pages.years(0, 0), NONE);
        Due.is("years(0, 41)", pages.years(0, 41), NONE);
        Due.is("nothing is done", pages.is(0) * 100000 + pages.is(1), 503);
        Due.is("years(0, 1)", pages.years(0, 1), 1);
        Due.is("X: 503 compacts nothing by one draw", pages.is(1), Make.nextX(503));
        Due.is("years(9999, 1)", pages.years(9999, 1), 2);
        // 20501 by 8 leaves 5, nothing is LIVE.
        Due.is("X: 20501 frees nothing by one draw", pages.is(1), Make.nextX(20501));
        Due.is("years(9999, 40)", pages.years(9999, 40), 42);
    }

    private static void yearsAtTheLast() {
        Used pages = new Used();
        Make.passTo(pages, 9998);
        Due.is("years(5, 40)", pages.years(5, 40), 9999);
        Due.is("years(5, 40) again", pages.years(5, 40), 9999);
        Due.is("X all the same", pages.is(1), 513);
        Due.is("years(-1, 1)", pages.years(-1, 1), NONE);
        Due.is("X as it was", pages.is(1), 513);
        pages.undo();
        pages.undo();
        Due.is("DAY", pages.is(0), 9998);
    }

    private static void yearsOneStep() {
        Used pages = Make.with(3);
        int x = pages.is(1);
        pages.years(7, 40);
        Due.is("one STEP", pages.about(2), 4);
        Due.is("undo()", pages.undo(), 3);
        Due.is("DAY", pages.is(0), 0);
        Due.is("X", pages.is(1), x);
        Due.is("is(3)", pages.is(3), 3);
        for (int i = 0; i < 40; i++) {
            pages.years(i, 1);
        }
        Due.is("the latest 30", pages.about(2), 30);
    }

    private static void nothingToUndo() {
        Used pages = new Used();
        Due.is("undo()", pages.undo(), NONE);
        pages.give(1);
        Due.is("undo()", pages.undo(), 0);
        Due.is("undo() again", pages.undo(), NONE);
        Due.is("X", pages.is(1), 503);
        pages.give(1000);
        pages.free(0);
        pages.mesh(0, 1);
        pages.move();
        pages.lift();
        Due.is("what can't be is no STEP", pages.undo(), NONE);
    }

    private static void thirtySteps() {
        for (int steps : new int[] {29, 30, 31, 45, 60, 61}) {
            Used pages = new Used();
            for (int i = 0; i < steps; i++) {
                pages.give(i);
            }
            int kept = Math.min(30, steps);
            Due.is("about(2) of " + steps, pages.about(2), kept);
            for (int left = kept - 1; left >= 0; left--) {
                Due.is("undo()", pages.undo(), left);
                Due.is("is(3)", pages.is(3), steps - kept + left);
            }
            Due.is("no more", pages.undo(), NONE);
            Due.is("is(3)", pages.is(3), steps - kept);
        }
        Used pages = new Used();
        pages.give(1);
        pages.day(29);
        Due.is("about(2)", pages.about(2), 30);
        pages.day(60);
        Due.is("about(2) behind 60 DAYS", pages.about(2), 30);
        for (int left = 29; left >= 0; left--) {
            pages.undo();
        }
        Due.is("DAY, the latest 30 taken back", pages.is(0), 59);
    }

    private static void stepsAround() {
        Used pages = Make.with(40);
        for (int i = 0; i < 10; i++) {
            pages.undo();
        }
        Due.is("thirty live", pages.is(3), 30);
        for (int i = 0; i < 15; i++) {
            pages.give(500 + i);
        }
        Due.is("about(2)", pages.about(2), 30);
        Due.is("is(3)", pages.is(3), 45);
        for (int left = 29; left >= 0; left--) {
            Due.is("undo()", pages.undo(), left);
            Due.is("is(3)", pages.is(3), 15 + left);
            Due.is("the first one of 500 on", pages.holds(500) != NONE, left >= 16);
        }
        Due.is("no more", pages.undo(), NONE);
        pages.give(1);
        Due.is("but a new one", pages.undo(), 0);
    }

    private static void allAsAhead() {
        // Each is taken back: all is as without it.
        Same.inAll(pages -> {
            start(pages);
            pages.give(7);
            pages.undo();
        }, DoingEdgesTest::start);
        Same.inAll(pages -> {
            start(pages);
            pages.free(0);
            pages.undo();
        }, DoingEdgesTest::start);
        Same.inAll(pages -> {
            start(pages);
            pages.free(53);
            pages.undo();
        }, DoingEdgesTest::start);
        Same.inAll(pages -> {
            start(pages);
            pages.free(19);
            pages.free(20);
            pages.undo();
            pages.undo();
        }, DoingEdgesTest::start);
        Same.inAll(pages -> {
            start(pages);
            pages.write(0, 7);
            pages.undo();
        }, DoingEdgesTest::start);
        Same.inAll(pages -> {
            start(pages);
            pages.mesh(2, 3);
            pages.undo();
        }, DoingEdgesTest::start);
        Same.inAll(pages -> {
            start(pages);
            pages.fence(0, 1);
            pages.undo();
        }, DoingEdgesTest::start);
        Same.inAll(pages -> {
            start(pages);
            pages.compact();
            pages.undo();
        }, DoingEdgesTest::start);
        Same.inAll(pages -> {
            start(pages);
            pages.day(1);
            pages.undo();
        }, DoingEdgesTest::start);
        Same.inAll(pages -> {
            start(pages);
            pages.years(8, 40);
            pages.undo();
        }, DoingEdgesTest::start);
        Same.inAll(pages -> {
            startWithBook(pages);
            pages.mesh(2, 3);
            pages.undo();
        }, DoingEdgesTest::startWithBook);
        Same.inAll(pages -> {
            startWithBook(pages);
            pages.fence(0, 1);
            pages.lift();
            pages.undo();
            pages.undo();
        }, DoingEdgesTest::startWithBook);
        Same.inAll(pages -> {
            fence(pages);
            pages.move();
            pages.undo();
        }, DoingEdgesTest::fence);
        Same.inAll(pages -> {
            fence(pages);
            pages.lift();
            pages.undo();
        }, DoingEdgesTest::fence);
        Same.inAll(pages -> {
            fence(pages);
            pages.move();
            pages.move();
            pages.write(19, 500);
            for (int i = 0; i < 3; i++) {
                pages.undo();
            }
        }, DoingEdgesTest::fence);
    }

    /** Few steps, so that none falls out of the thirty by those that are taken back. */
    private static void start(Used pages) {
        Make.giveTimes(pages, 64);
        Make.freeOthers(pages, Make.slots(0, 1, 2), Make.slots(3, 4), Make.slots(0, 8), Make.slots(5));
        for (int i = 0; i < 5; i++) {
            pages.undo();
        }
    }

    /** The book is full, so that each line that comes drops one. */
    private static void startWithBook(Used pages) {
        for (int i = 0; i < 13; i++) {
            pages.free(pages.give(1));
        }
        start(pages);
    }

    private static void fence(Used pages) {
        start(pages);
        pages.fence(0, 1);
    }

    private static void noSteps() {
        Used pages = Make.withSlots(Make.slots(0), Make.slots(1));
        for (int i = 0; i < 25; i++) {
            pages.undo();
        }
        int steps = pages.about(2);
        Make.say(pages, "probes 5;");
        pages.by(0);
        pages.said(1, 1, 1);
        pages.image();
        pages.would();
        pages.foretold(60, 0);
        pages.most();
        pages.mate(0);
        pages.fewest();
        pages.whose();
        pages.at(0);
        Due.is("about(2)", pages.about(2), steps);
        pages.undo();
        Due.is("texts stay", pages.about(0), 1);
        Due.is("so does the one that rules", pages.about(1), 0);
        Due.is("and what was SAID", pages.about(3), 1);
        Make.feed(pages, "give");
        pages.undo();
        Due.is("and the tape", pages.about(4), 4);
    }
}
