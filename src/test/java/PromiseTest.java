/** Each promise by hand: ordinary inputs, the edges that the document names, and wrong inputs. */
public final class PromiseTest {
    private static final int NONE = -1;
    /** The first page's vector, by the draws from 503 on. */
    private static final int[] VECTOR = {1, 6, 10, 9, 2, 13, 14, 0, 4, 15, 11, 5, 8, 3, 12, 7};

    public static void main(String[] args) {
        madeAndFed();
        read();
        faults();
        deepFaults();
        endsOfTexts();
        ruled();
        given();
        freed();
        written();
        meshed();
        meshedTheOtherWay();
        fenced();
        fencedFrameThatEmpties();
        moved();
        lifted();
        compacted();
        probed();
        passed();
        lastDays();
        played();
        years();
        undone();
        asked();
        booked();
        foretold();
        clashes();
        odds();
        expected();
        matched();
        fewest();
        sparse();
        patterns();
        values();
        laws();
        sums();
        said();
        imaged();
        about();
        Due.end();
    }

    private static void madeAndFed() {
        Used pages = new Used();
        for (int page = 0; page < 12; page++) {
            Due.is("new page " + page, pages.page(page, 0), NONE);
            Due.is("new page's slots", pages.page(page, 1), 0);
        }
        Due.is("is(0)", pages.is(0), 0);
        Due.is("is(1)", pages.is(1), 503);
        Due.is("is(4)", pages.is(4), 0);
        Due.is("book(NONE, 0)", pages.book(NONE, 0), 0);
        Due.is("about(0)", pages.about(0), 0);
        Due.is("about(1)", pages.about(1), NONE);
        pages.give(5);
        Due.is("back() to the new object", pages.back(), 0);
        Due.is("at(1) behind it", pages.at(1), NONE);
        for (int i = 1; i <= 15; i++) {
            Due.is("feed " + i, pages.feed(0x64617920, 0x313b2020, 0x20202020, 0x0a202020, 0x20202020), 20 * i);
        }
        Due.is("feed beyond 300", pages.feed(1, 2, 3, 4, 5), NONE);
        Due.is("about(4)", pages.about(4), 300);
        for (int n : Make.FAR) {
            Due.is("end(" + n + ")", pages.end(n), NONE);
        }
        Due.is("end(301)", pages.end(301), NONE);
        Due.is("end(-1)", pages.end(-1), NONE);
        Due.is("end(300)", pages.end(300), 300);
        Due.is("end(281)", pages.end(281), 281);
        Due.is("feed with 281", pages.feed(1, 2, 3, 4, 5), NONE);
        Due.is("about(4)", pages.about(4), 281);
        Due.is("end(280)", pages.end(280), 280);
        Due.is("feed with 280", pages.feed(0x20202020, 0x20202020, 0x20202020, 0x20202020, 0x20202020), 300);
        Due.is("text() of 15 days", pages.text(), 0);
        Due.is("the tape is empty then", pages.about(4), 0);
        Due.is("end(1) of none", pages.end(1), NONE);
        Due.is("end(0) of none", pages.end(0), 0);
        Due.is("played(0)", pages.played(0), NONE);
        Due.is("14 days and one", pages.is(0), 14);
    }

    private static void read() {
        Used pages = new Used();
        Due.is("fault(0) ahead of any", pages.fault(0), NONE);
        Due.is("fault(1) ahead of any", pages.fault(1), NONE);
        Due.is("the empty text", pages.text(), 0);
        Due.is("fault(0) of it", pages.fault(0), 0);
        Due.is("fault(1) of it", pages.fault(1), NONE);
        Due.is("a text with a fault", Make.say(pages, "give 1; give"), NONE);
        Due.is("its tape is empty", pages.about(4), 0);
        Due.is("fault(0)", pages.fault(0), 1);
        Due.is("fault(1)", pages.fault(1), 12);
        for (int what : new int[] {-1, 2, Integer.MIN_VALUE, Integer.MAX_VALUE}) {
            Due.is("fault(" + what + ")", pages.fault(what), NONE);
        }
        Due.is("a text", Make.say(pages, "give 1;"), 1);
        Due.is("a text", Make.say(pages, "give 2;"), 2);
        Due.is("a text", Make.say(pages, "\n give\n3 ; \n"), 3);
        Due.is("about(0)", pages.about(0), 4);
        Make.feed(pages, "!");
        Due.is("the fifth text", pages.text(), NONE);
        Used other = new Used();
        for (int i = 0; i < 8; i++) {
            Due.is("a long text with a fault", Make.say(other, "probes 1" + "+1".repeat(145)), NONE);
        }
        Due.is("it leaves nothing behind", Make.say(other, "probes 1" + "+1-1".repeat(70) + "+6;"), 0);
        other.by(0);
        Due.is("probes()", other.probes(), 7);
        Due.is("a law of a text with a fault", Make.say(other, "meshes 0; probes 2; give"), NONE);
        Due.is("is not the next one's", Make.say(other, "give 1;"), 1);
        other.by(1);
        Due.is("probes()", other.probes(), 3);
        other.give(1);
        Due.is("meshes(0, 0)", other.meshes(0, 0), true);
        Due.is("its tape stays", pages.about(4), 1);
        Due.is("it was not read", pages.fault(0), 0);
        Due.is("it was not read", pages.fault(1), NONE);
    }

    private static void faulty(String text, int fault, int place) {
        Used pages = new Used();
        Due.is("text of " + text, Make.say(pages, text), fault == 0 ? 0 : NONE);
        Due.is("fault of " + text, pages.fault(0), fault);
        Due.is("place of " + text, pages.fault(1), place);
        Due.is("texts behind " + text, pages.about(0), fault == 0 ? 1 : 0);
    }

    private static void faults() {
        faulty("", 0, NONE);
        faulty(" \n ", 0, NONE);
        faulty("compact;", 0, NONE);
        faulty("meshes one<=2;", 1, 10);
        faulty("meshes if one<=2then 1else 0end;", 0, NONE);
        faulty("give1;give 2;", 0, NONE);
        faulty("give 0;give 999;free 0;free 191;write 0 at 0;write 999 at 191;mesh 0 with 0;mesh 11 with 11;day 1;day 60;", 0, NONE);
        faulty("Give 1;", 1, 0);
        faulty("giv 1;", 1, 0);
        faulty("giveA 1;", 1, 0);
        faulty("giveZ 1;", 1, 0);
        faulty("givea 1;", 1, 0);
        faulty("givez 1;", 1, 0);
        faulty("give@1;", 1, 4);
        faulty("give[1;", 1, 4);
        faulty("give`1;", 1, 4);
        faulty("give{1;", 1, 4);
        faulty("give 1:;", 1, 6);
        faulty("give 0;give 9;", 0, NONE);
        faulty("gives 1;", 1, 0);
        faulty("give\t1;", 1, 4);
        faulty("give \u00e9;", 1, 5);
        faulty("give -1;", 1, 5);
        faulty("give one;", 1, 5);
        faulty("give 1 1;", 1, 7);
        faulty("give 1;;", 1, 7);
        faulty("give 1", 1, 6);
        faulty("give 1 \n", 1, 8);
        faulty("give 1000;", 2, 5);
        faulty("give 00000000000000999;", 0, NONE);
        faulty("give 99999999999999999999;", 2, 5);
        faulty("free 192;", 2, 5);
        faulty("write 1000 at 0;", 2, 6);
        faulty("write 0 at 192;", 2, 11);
        faulty("write 0 with 1;", 1, 8);
        faulty("mesh 12 with 0;", 2, 5);
        faulty("mesh 0 with 12;", 2, 12);
        faulty("mesh 0 at 1;", 1, 7);
        faulty("compact 1;", 1, 8);
        faulty("day 0;", 2, 4);
        faulty("day 61;", 2, 4);
        faulty("probes 9999;", 0, NONE);
        faulty("probes 10000;", 2, 7);
        faulty("probes 1 10000;", 1, 9);
        faulty("probes;", 1, 6);
        faulty("probes (1;", 1, 9);
        faulty("probes 1);", 1, 8);
        faulty("probes )1);", 1, 7);
        faulty("probes (1(;", 1, 9);
        faulty("probes 1 +;", 1, 10);
        faulty("probes + 1;", 1, 7);
        faulty("probes (1 < 2);", 1, 10);
        faulty("probes if 1 < 2 then 3 else 4;", 1, 29);
        faulty("probes if 1 < 2 then 3 end;", 1, 23);
        faulty("probes if 1 then 3 else 4 end;", 1, 12);
        faulty("probes if 1 < 2 < 3 then 3 else 4 end;", 1, 16);
        faulty("probes if (1 < 2) then 3 else 4 end;", 1, 13);
        faulty("probes if 1 < = 2 then 3 else 4 end;", 1, 14);
        faulty("probes if 1 <= 2 and not 1 # 2 or 3 >= 4 then 3 else 4 end;", 0, NONE);
        faulty("probes not 1 < 2;", 1, 7);
        faulty("probes if 1 < 2 or then 3 else 4 end;", 1, 19);
        faulty("meshes 1; probes 2;", 0, NONE);
        faulty("meshes 1; meshes 2;", 4, 10);
        faulty("probes 1; meshes 1; probes 2;", 4, 20);
        faulty("meshes 1 probes 2;", 1, 9);
        faulty("meshes sparse;", 5, 7);
        faulty("meshes one + other + time + pages + frames;", 0, NONE);
        faulty("probes one;", 5, 7);
        faulty("probes other;", 5, 7);
        faulty("probes sparse + time + pages + frames;", 0, NONE);
        faulty("probes 1 sparse;", 1, 9);
        faulty("meshes 1 sparse;", 1, 9);
        faulty("meshes live sparse;", 5, 12);
    }

    private static void deepFaults() {
        faulty("probes ((((((((1))))))));", 0, NONE);
        faulty("probes (((((((((1)))))))));", 3, 15);
        faulty("probes --------1;", 0, NONE);
        faulty("probes ---------1;", 3, 15);
        faulty("probes -(live place -(live place 1));", 0, NONE);
        faulty("probes 1 - 1 - 1 - 1 - 1 - 1 - 1 - 1 - 1 - 1;", 0, NONE);
        faulty("probes (1) + (1) + (1) + (1) + (1) + (1) + (1) + (1) + (1);", 0, NONE);
        faulty("probes if not not not not not not not 1 < 2 then 1 else 2 end;", 0, NONE);
        faulty("probes if not not not not not not not not 1 < 2 then 1 else 2 end;", 3, 38);
        faulty("probes if not not not not not not not (1) < 2 then 1 else 2 end;", 3, 38);
        faulty("probes if 1<2 then if 1<2 then if 1<2 then if 1<2 then ((((1)))) else 2 end else 2 end else 2 end else 2 end;", 0, NONE);
        faulty("probes if 1<2 then if 1<2 then if 1<2 then if 1<2 then (((((1))))) else 2 end else 2 end else 2 end else 2 end;", 3, 59);
        faulty("probes (((((((((sparse", 3, 15);
        faulty("probes ((((((((sparse", 1, 21);
        faulty("probes ((((((((10000", 2, 15);
        faulty("probes ((((((((one", 5, 15);
        faulty("probes ((((((((then", 1, 15);
    }

    private static void endsOfTexts() {
        String day = "day 1;";
        faulty(day.repeat(24), 0, NONE);
        faulty(day.repeat(24) + " ", 0, NONE);
        faulty(day.repeat(24) + " day", 6, 145);
        faulty(day.repeat(24) + "probes 1;", 6, 144);
        faulty("probes 1;" + day.repeat(23) + "probes 1;", 4, 147);
        faulty(day.repeat(24) + "then", 1, 144);
        faulty(day.repeat(24) + ";", 1, 144);
        faulty("probes 1;meshes 1;" + day.repeat(22), 0, NONE);
        faulty("probes 1;meshes 1;" + day.repeat(23), 6, 150);
        faulty(";".repeat(300), 1, 0);
        faulty("probes 1" + "+1".repeat(145) + "; ", 0, NONE);
        faulty("probes 1" + "+1".repeat(146), 1, 300);
        faulty("probes " + "(".repeat(293), 3, 15);
    }

    private static void ruled() {
        Used pages = new Used();
        Due.is("by(0) of none", pages.by(0), false);
        Due.is("by(NONE)", pages.by(NONE), true);
        Make.say(pages, "probes 7;");
        Make.say(pages, "probes 9;");
        Due.is("probes() by none", pages.probes(), 3);
        Due.is("by(1)", pages.by(1), true);
        Due.is("probes()", pages.probes(), 9);
        Due.is("about(1)", pages.about(1), 1);
        Due.is("by(2)", pages.by(2), false);
        Due.is("by(-2)", pages.by(-2), false);
        for (int text : Make.FAR) {
            Due.is("by(" + text + ")", pages.by(text), false);
        }
        Due.is("probes() as it was", pages.probes(), 9);
        Due.is("by(0)", pages.by(0), true);
        Due.is("probes()", pages.probes(), 7);
        Due.is("by(NONE)", pages.by(NONE), true);
        Due.is("about(1)", pages.about(1), NONE);
        Due.is("probes()", pages.probes(), 3);
        Due.is("laws are no steps", pages.about(2), 0);
    }

    private static void given() {
        Used pages = new Used();
        for (int value : new int[] {-1, 1000, Integer.MIN_VALUE, Integer.MAX_VALUE}) {
            Due.is("give(" + value + ")", pages.give(value), NONE);
        }
        Due.is("nothing was done", pages.is(1), 503);
        Due.is("no step", pages.about(2), 0);
        for (int i = 0; i < 16; i++) {
            Due.is("give " + i, pages.give(i == 0 ? 0 : 999), VECTOR[i]);
        }
        Due.is("X behind fifteen draws", pages.is(1), 18153);
        Due.is("the least value", pages.at(1), 0);
        Due.is("the most", pages.at(6), 999);
        pages.free(10);
        pages.free(2);
        Due.is("the first in the vector", pages.give(1), 10);
        Due.is("then the next", pages.give(1), 2);
        Due.is("the next page", pages.give(3), 22);
        pages.free(22);
        Due.is("a page once more is drawn anew", pages.page(1, 0), NONE);
        for (int i = 16; i < 192; i++) {
            Due.holds("room for " + i, pages.give(7) / 16 == i / 16);
        }
        Due.is("all are open", pages.is(5), 4095);
        Due.is("all are live", pages.is(3), 192);
        int x = pages.is(1);
        Due.is("no room", pages.give(7), NONE);
        Due.is("and no draws", pages.is(1), x);
        Due.is("undo() of the last that was done", pages.undo(), 29);
        Due.is("is(3)", pages.is(3), 191);
        Due.holds("room again", pages.give(8) / 16 == 11);
    }

    private static void freed() {
        Used pages = Make.with(3);
        Due.is("free(0), not live", pages.free(0), NONE);
        for (int address : Make.FAR) {
            Due.is("free(" + address + ")", pages.free(address), NONE);
        }
        Due.is("free(-1)", pages.free(-1), NONE);
        Due.is("free(192)", pages.free(192), NONE);
        Due.is("no steps more", pages.about(2), 3);
        Due.is("free(6)", pages.free(6), 1);
        Due.is("free(6) again", pages.free(6), NONE);
        Due.is("at(6)", pages.at(6), NONE);
        Due.is("free(1)", pages.free(1), 0);
        Due.is("it is open", pages.page(0, 0), 0);
        Due.is("free(10)", pages.free(10), 2);
        Due.is("it is new", pages.page(0, 0), NONE);
        Due.is("no vector", pages.vector(0, 0), NONE);
        Due.is("a line", pages.book(1, 1), 1);
        Due.is("its page", pages.book(1, 2), 0);
        Due.is("its frame", pages.book(1, 3), 0);
        Due.is("opened again by draws that went on", pages.is(1), 18153);
    }

    private static void written() {
        Used pages = Make.with(1);
        Due.is("write(1, 999)", pages.write(1, 999), true);
        Due.is("at(1)", pages.at(1), 999);
        Due.is("write(1, 0)", pages.write(1, 0), true);
        Due.is("write(1, 0), a step, too", pages.write(1, 0), true);
        Due.is("about(2)", pages.about(2), 4);
        Due.is("write(1, -1)", pages.write(1, -1), false);
        Due.is("write(1, 1000)", pages.write(1, 1000), false);
        Due.is("write(0, 1)", pages.write(0, 1), false);
        Due.is("write(-1, 1)", pages.write(-1, 1), false);
        Due.is("write(192, 1)", pages.write(192, 1), false);
        for (int far : Make.FAR) {
            Due.is("write(" + far + ", 1)", pages.write(far, 1), false);
            Due.is("write(1, " + far + ")", pages.write(1, far), false);
        }
        Due.is("about(2)", pages.about(2), 4);
        Due.is("at(1)", pages.at(1), 0);
    }

    private static void meshed() {
        Used pages = Make.withSlots(Make.slots(0, 1, 2), Make.slots(3, 4), Make.slots(2, 5), Make.slots(6));
        int third = pages.at(19);
        Due.is("clashing", pages.mesh(0, 2), NONE);
        Due.is("itself", pages.mesh(0, 0), NONE);
        Due.is("a new one", pages.mesh(0, 4), NONE);
        Due.is("none", pages.mesh(0, 12), NONE);
        Due.is("none", pages.mesh(-1, 0), NONE);
        for (int far : Make.FAR) {
            Due.is("mesh(" + far + ", 0)", pages.mesh(far, 0), NONE);
        }
        int steps = pages.about(2);
        Due.is("fewer there", pages.mesh(0, 1), 2);
        Due.is("a step", pages.about(2), Math.min(30, steps + 1));
        Due.is("in the first one's frame", pages.page(1, 0), 0);
        Due.is("the frame is free", pages.frame(1, 0), 0);
        Due.is("both pages", pages.frame(0, 0), 3);
        Due.is("all slots", pages.frame(0, 1), 31);
        Due.is("values stay", pages.at(19), third);
        Due.is("meshed", pages.is(4), 1);
        int last = pages.book(NONE, 0) - 1;
        Due.is("the line", pages.book(last, 1), 2);
        Due.is("stays", pages.book(last, 2), 0);
        Due.is("is free", pages.book(last, 3), 1);
        Due.is("together by now", pages.mesh(0, 1), NONE);
        Due.is("clashing with the first's slots", pages.mesh(1, 2), NONE);
        Due.is("the third by the second", pages.mesh(1, 3), 1);
        Due.is("in their frame", pages.page(3, 0), 0);
        pages.write(19, 77);
        Due.is("written in the new frame", pages.at(19), 77);
        Due.is("the others as they were", pages.at(0), VALUE_OF_SLOT_0);
    }

    /** Slot 0 is the eighth in the first page's vector, so that it was given 7. */
    private static final int VALUE_OF_SLOT_0 = 7;

    private static void meshedTheOtherWay() {
        Used pages = Make.withSlots(Make.slots(0), Make.slots(3, 4), Make.slots(5, 6));
        Due.is("fewer here", pages.mesh(0, 1), 1);
        Due.is("into the second one's", pages.page(0, 0), 1);
        Due.is("its value", pages.at(0), VALUE_OF_SLOT_0);
        pages = Make.withSlots(Make.slots(0, 1), Make.slots(3, 4), Make.slots(5, 6));
        Due.is("as many: the second one goes", pages.mesh(2, 1), 2);
        Due.is("into frame 2", pages.page(1, 0), 2);
        Make.say(pages, "meshes one - 2 * other;");
        pages.by(0);
        Due.is("one is the first one's frame: 2 - 8", pages.mesh(0, 1), NONE);
        Due.is("4 - 4", pages.mesh(1, 0), NONE);
        pages.free(0);
        Due.is("4 - 2", pages.mesh(1, 0), 1);
        Due.is("all in frame 2", pages.frame(2, 0), 7);
    }

    private static void fenced() {
        Used pages = Make.withSlots(Make.slots(0, 1, 2), Make.slots(3, 4), Make.slots(6), Make.slots(0), Make.slots(8, 9));
        Due.is("clashing", pages.fence(0, 3), NONE);
        Due.is("itself", pages.fence(1, 1), NONE);
        Due.is("a new one", pages.fence(0, 7), NONE);
        for (int far : Make.FAR) {
            Due.is("fence(0, " + far + ")", pages.fence(0, far), NONE);
        }
        Due.is("fence(0, 1)", pages.fence(0, 1), 2);
        Due.is("goes", pages.about(5), 1);
        Due.is("to copy", pages.about(6), 2);
        Due.is("page 1 is fenced", pages.page(1, 3), 1);
        Due.is("page 0 is not", pages.page(0, 3), 0);
        Due.is("page 1 gives out nothing", pages.page(1, 4), NONE);
        int last = pages.book(NONE, 0) - 1;
        Due.is("the line", pages.book(last, 1), 3);
        Due.is("goes", pages.book(last, 2), 1);
        Due.is("stays", pages.book(last, 3), 0);
        Due.is("not yet meshed", pages.page(1, 0), 1);
        Due.is("is(4)", pages.is(4), 0);
        Due.is("no other pair", pages.fence(2, 4), NONE);
        Due.is("but others can be meshed", pages.can(2, 4), 0);
        Due.is("one that goes", pages.can(1, 2), 3);
        Due.is("one that stays", pages.can(2, 0), 3);
        Due.is("mesh with one that stays", pages.mesh(2, 0), NONE);
        Due.is("free behind the fence", pages.free(19), NONE);
        Due.is("write behind the fence", pages.write(19, 1), false);
        Due.holds("its value can be asked", pages.at(19) >= 0);
        Due.is("free of the one that stays", pages.free(0), VALUE_OF_SLOT_0);
        Due.is("write of it", pages.write(1, 44), true);
        for (int i = 0; i < 12; i++) {
            int address = pages.give(500 + i);
            Due.holds("page 0 gives none of those that go: " + address, address / 16 == 0 && address != 3 && address != 4);
        }
        Due.is("then it has none", pages.page(0, 4), NONE);
        Due.is("mesh others meanwhile", pages.mesh(2, 4), 1);
        Due.is("move", pages.move(), 1);
        Due.is("move", pages.move(), 0);
        Due.is("fourteen and two", pages.frame(0, 1), 65535);
        Due.is("sound", pages.sound(), true);
    }

    private static void fencedFrameThatEmpties() {
        Used pages = Make.withSlots(Make.slots(1, 6), Make.slots(10), Make.slots(0));
        Due.is("fence(0, 1)", pages.fence(0, 1), 1);
        pages.free(1);
        pages.free(6);
        Due.is("the one that stays has no pages", pages.frame(0, 0), 0);
        for (int i = 0; i < 15; i++) {
            pages.give(1);
        }
        Due.is("page 2 is full", pages.page(2, 2), 16);
        int address = pages.give(9);
        Due.is("page 0 is opened", address / 16, 0);
        Due.is("in the frame that stays", pages.page(0, 0), 0);
        for (int i = 0; i < 14; i++) {
            Due.is("and gives out", pages.give(9) / 16, 0);
        }
        Due.is("all but the one that comes", pages.page(0, 1), 65535 & ~(1 << 10));
        int value = pages.at(26);
        Due.is("move()", pages.move(), 0);
        Due.is("page 1 came", pages.page(1, 0), 0);
        Due.is("with its value", pages.at(26), value);
        pages = Make.withSlots(Make.slots(1), Make.slots(10));
        pages.fence(0, 1);
        pages.free(1);
        Due.is("move() into the empty one", pages.move(), 0);
        Due.is("there it is", pages.page(1, 0), 0);
        Due.is("frames", pages.is(2), 1);
    }

    private static void moved() {
        Used pages = Make.withSlots(Make.slots(0, 1, 2, 3), Make.slots(7, 9, 12));
        Due.is("move() of none", pages.move(), NONE);
        pages.fence(0, 1);
        Due.is("first", pages.move(), 2);
        Due.is("about(6)", pages.about(6), 2);
        Due.is("second", pages.move(), 1);
        Due.is("page 1 is fenced yet", pages.page(1, 3), 1);
        Due.is("not meshed", pages.is(4), 0);
        int value = pages.at(23);
        Due.is("third", pages.move(), 0);
        Due.is("meshed", pages.is(4), 1);
        Due.is("page 1", pages.page(1, 0), 0);
        Due.is("none is fenced", pages.page(1, 3), 0);
        Due.is("about(5)", pages.about(5), NONE);
        Due.is("about(6)", pages.about(6), 0);
        Due.is("its value", pages.at(23), value);
        int last = pages.book(NONE, 0) - 1;
        Due.is("the line", pages.book(last, 1), 2);
        Due.is("stays", pages.book(last, 2), 0);
        Due.is("is free", pages.book(last, 3), 1);
        Due.is("move() of none", pages.move(), NONE);
        pages.undo();
        Due.is("undone: to copy", pages.about(6), 1);
        Due.is("undone: fenced", pages.page(1, 3), 1);
    }

    private static void lifted() {
        Used pages = Make.withSlots(Make.slots(0, 1, 2, 3), Make.slots(7, 9, 12));
        Due.is("lift() of none", pages.lift(), false);
        pages.fence(0, 1);
        pages.move();
        Due.is("lift()", pages.lift(), true);
        Due.is("lift() again", pages.lift(), false);
        Due.is("page 1 stays where it is", pages.page(1, 0), 1);
        Due.is("not fenced", pages.page(1, 3), 0);
        Due.is("not meshed", pages.is(4), 0);
        int last = pages.book(NONE, 0) - 1;
        Due.is("the line", pages.book(last, 1), 4);
        Due.is("went", pages.book(last, 2), 1);
        Due.is("stayed", pages.book(last, 3), 0);
        Due.is("all are to copy again", pages.fence(0, 1), 3);
    }

    private static void compacted() {
        Used pages = new Used();
        Due.is("compact() of none", pages.compact(), 0);
        Due.is("it is a step", pages.about(2), 1);
        Due.is("without draws", pages.is(1), 503);
        pages = Make.withSlots(Make.slots(0), Make.slots(1));
        int x = pages.is(1);
        Due.is("would()", pages.would(), 1);
        Due.is("would() changes nothing", pages.is(1), x);
        Due.is("compact() of two", pages.compact(), 1);
        Due.is("one draw", pages.is(1), (x * 769 + 631) % 31123);
        boolean swapped = x % 2 == 0;
        Due.is("the left one's frame stays", pages.page(0, 0), swapped ? 1 : 0);
        Due.is("both there", pages.page(1, 0), swapped ? 1 : 0);
        pages = Make.withSlots(Make.slots(0, 1, 2, 3, 4, 5, 6, 7), Make.slots(8));
        Due.is("eight are sparse", pages.compact(), 1);
        pages = Make.withSlots(Make.slots(0, 1, 2, 3, 4, 5, 6, 7, 8), Make.slots(9));
        Due.is("nine are not", pages.compact(), 0);
        pages = Make.withSlots(Make.slots(0), Make.slots(1), Make.slots(2));
        Due.is("of three one is in neither", pages.compact(), 1);
        Due.is("frames", pages.is(2), 2);
        pages = Make.withSlots(Make.slots(0), Make.slots(1), Make.slots(2), Make.slots(3), Make.slots(4), Make.slots(5));
        Due.is("three pairs", pages.compact(), 3);
        Due.is("frames", pages.is(2), 3);
        Due.is("meshed", pages.is(4), 3);
        pages = Make.withSlots(Make.slots(0), Make.slots(0), Make.slots(0), Make.slots(0));
        Due.is("all clash", pages.compact(), 0);
        pages = Make.withSlots(Make.slots(0, 1), Make.slots(2), Make.slots(3), Make.slots(4));
        pages.fence(0, 1);
        Due.is("those of the fence are not sparse", pages.sparse(), 12);
        Due.is("the two others", pages.compact(), 1);
    }

    private static void probed() {
        Used pages = Make.withSlots(Make.slots(0), Make.slots(1), Make.slots(2), Make.slots(3));
        Make.say(pages, "probes 0;");
        Make.say(pages, "probes -5;");
        Make.say(pages, "probes 1000;");
        Make.say(pages, "probes sparse / 4; meshes frames - 3;");
        pages.by(0);
        Due.is("no probes", pages.would(), 0);
        pages.by(1);
        Due.is("below 0", pages.probes(), 0);
        Due.is("none", pages.would(), 0);
        pages.by(2);
        Due.is("above 12", pages.probes(), 12);
        Due.is("two pairs", pages.would(), 2);
        pages.by(3);
        Due.is("probes of sparse", pages.probes(), 1);
        Due.is("then the law, which is asked each time, forbids", pages.would(), 1);
        Due.is("compact()", pages.compact(), 1);
        Due.is("frames", pages.is(2), 3);
        pages = Make.withSlots(Make.slots(0), Make.slots(1), Make.slots(0), Make.slots(1));
        int most = 0;
        for (int i = 0; i < 12; i++) {
            int would = pages.would();
            Due.holds("two frames of each slot: none or two", would == 0 || would == 2);
            most = Math.max(most, would);
            pages.image();
            Due.is("as it would", pages.compact(), would);
            pages.back();
            pages.years(i, 1);
            pages.undo();
            pages.write(0, i);
            pages.day(1);
            pages.undo();
        }
        Due.holds("some were meshed", most == 2 || pages.would() == 0);
    }

    private static void passed() {
        Used pages = new Used();
        for (int n : new int[] {0, -1, 61, Integer.MIN_VALUE, Integer.MAX_VALUE}) {
            Due.is("day(" + n + ")", pages.day(n), NONE);
        }
        Due.is("nothing was done", pages.is(0), 0);
        // 503 mod 8 is 7: compacted, which is something done always.
        Due.is("day(1)", pages.day(1), 1);
        Due.is("one draw", pages.is(1), (503 * 769 + 631) % 31123);
        Due.is("DAY", pages.is(0), 1);
        int x = pages.is(1);
        int done = 0;
        for (int i = 0; i < 40; i++) {
            int lot = x % 8;
            int live = pages.is(3);
            int before = pages.is(4);
            int drawn = (x * 769 + 631) % 31123;
            int one = pages.day(1);
            if (lot <= 3) {
                Due.is("given out", pages.is(3), live + 1);
                Due.holds("the value that was drawn", pages.holds(drawn % 1000) != NONE);
                Due.is("something done", one, 1);
            } else if (lot <= 6) {
                Due.is("freed", pages.is(3), Math.max(0, live - 1));
                Due.is("done, if any was live", one, live == 0 ? 0 : 1);
                Due.is("a draw more, if any was", pages.is(1), live == 0 ? drawn : (drawn * 769 + 631) % 31123);
            } else {
                Due.is("compacted", one, 1);
                Due.holds("nothing is lost", pages.is(3) == live && pages.is(4) >= before);
            }
            x = pages.is(1);
            done += one;
        }
        Used other = new Used();
        Due.is("all at once", other.day(41), done + 1);
        Due.is("X alike", other.is(1), pages.is(1));
        Due.is("steps, each", other.about(2), 30);
        other.undo();
        Due.is("the latest day is taken back", other.is(0), 40);
        pages = Make.withSlots(Make.slots(0), Make.slots(1, 2));
        pages.fence(1, 0);
        for (int i = 0; i < 20; i++) {
            pages.day(10);
            Due.holds("what is fenced is not freed", pages.at(0) == VALUE_OF_SLOT_0 && pages.page(0, 3) == 1);
            Due.is("about(5)", pages.about(5), 0);
        }
        Due.is("a day's line bears the day ahead of it", firstOpened(), 1);
    }

    /** Day 0 compacts, day 1 opens the first page. */
    private static int firstOpened() {
        Used pages = new Used();
        for (int i = 0; i < 30 && pages.book(NONE, 0) == 0; i++) {
            pages.day(1);
        }
        Due.is("DAY is one more", pages.is(0), pages.book(0, 0) + 1);
        return pages.book(0, 0);
    }

    private static void lastDays() {
        Used pages = new Used();
        Make.say(pages, "day 60;".repeat(24));
        Make.say(pages, "give 5; day 3; compact;");
        for (int i = 0; i < 6; i++) {
            Due.is("1440 days", pages.played(0), NONE);
        }
        Due.is("DAY", pages.is(0), 8640);
        for (int i = 0; i < 22; i++) {
            Due.holds("day(60)", pages.day(60) >= 0);
        }
        Due.is("DAY", pages.is(0), 9960);
        pages.image();
        Due.is("beyond", pages.day(40), NONE);
        Due.is("nothing is done then", pages.is(0), 9960);
        Due.holds("day(39)", pages.day(39) >= 0);
        Due.is("the last", pages.is(0), 9999);
        Due.is("none can pass", pages.day(1), NONE);
        int x = pages.is(1);
        int meshed = pages.is(4);
        Due.is("foretold: none can pass", pages.foretold(5, 2), meshed);
        Due.is("years(7, 5)", pages.years(7, 5), 9999);
        Due.is("X is drawn for them all the same", pages.is(1), 7 * 2 + 503);
        pages.undo();
        Due.is("X as ahead", pages.is(1), x);
        pages.back();
        pages.day(37);
        Due.is("foretold: those that can pass", pages.foretold(60, 1), liveBehind(pages, 2));
        Due.is("two of three pass: the clause can't be", pages.played(1), 1);
        Due.is("but those that can pass do", pages.is(0), 9999);
        pages.undo();
        Due.is("each a step", pages.is(0), 9998);
        pages.back();
        pages.day(36);
        Due.is("three pass", pages.played(1), NONE);
        Due.is("DAY", pages.is(0), 9999);
        pages.back();
        pages.day(38);
        Due.is("years: those that can pass", pages.years(3, 40), 9999);
        closeAll(pages);
        Due.is("a line of the last day", pages.book(pages.book(NONE, 0) - 1, 0), 9999);
    }

    private static int liveBehind(Used pages, int days) {
        pages.day(days);
        int live = pages.is(3);
        for (int i = 0; i < days; i++) {
            pages.undo();
        }
        return live;
    }

    private static void played() {
        Used pages = new Used();
        for (int text : Make.FAR) {
            Due.is("played(" + text + ")", pages.played(text), -2);
        }
        Due.is("played(0) of none", pages.played(0), -2);
        Due.is("played(NONE)", pages.played(NONE), -2);
        Make.say(pages, "probes 0; give 5; write 6 at 1; meshes 0; give 8; free 6; compact; day 2;");
        Due.is("played(0)", pages.played(0), NONE);
        Due.is("steps", pages.about(2), 7);
        Due.is("at(1)", pages.at(1), 6);
        Due.is("its laws do not rule", pages.probes(), 3);
        Due.is("DAY", pages.is(0), 2);
        Make.say(pages, "give 1; free 191; give 2;");
        int live = pages.is(3);
        Due.is("one that can't be", pages.played(1), 1);
        Due.is("what was done stays", pages.is(3), live + 1);
        Make.say(pages, "meshes 1; write 5 at 190;");
        Due.is("numbered among all clauses", pages.played(2), 1);
        Make.say(pages, "give 1; mesh 0 with 11;");
        Due.is("mesh that can't be", pages.played(3), 1);
        Due.is("played(4)", pages.played(4), -2);
        pages = Make.withSlots(Make.slots(0, 1), Make.slots(2), Make.slots(3, 4));
        Make.say(pages, "mesh 0 with 1;mesh 0 with 1;");
        Make.say(pages, "mesh 2 with 0;");
        Due.is("the second time it can't be", pages.played(0), 1);
        Due.is("meshed", pages.page(1, 0), 0);
        Due.is("mesh 2 with 0", pages.played(1), NONE);
        Due.is("the first was 2", pages.page(2, 0), 0);
        pages = Make.with(192);
        Make.say(pages, "give 1;");
        Due.is("no room", pages.played(0), 0);
        Make.say(pages, "");
        Due.is("without clauses", pages.played(1), NONE);
    }

    private static void years() {
        Used pages = Make.with(1);
        Due.is("years(-1, 1)", pages.years(-1, 1), NONE);
        Due.is("years(10000, 1)", pages.years(10000, 1), NONE);
        Due.is("years(0, 0)", pages.years(0, 0), NONE);
        Due.is("years(0, 41)", pages.years(0, 41), NONE);
        for (int far : Make.FAR) {
            Due.is("years(" + far + ", 1)", pages.years(far, 1), NONE);
            Due.is("years(1, " + far + ")", pages.years(1, far), NONE);
        }
        Due.is("no step", pages.about(2), 1);
        Due.is("years(9999, 40)", pages.years(9999, 40), 40);
        Due.is("one step", pages.about(2), 2);
        int x = pages.is(1);
        pages.undo();
        Due.is("DAY", pages.is(0), 0);
        Due.is("X", pages.is(1), 18153);
        Due.is("years(9999, 1)", pages.years(9999, 1), 1);
        for (int i = 1; i < 40; i++) {
            pages.day(1);
        }
        Due.is("as so many days", pages.is(1), x);
        // X is 503 + 2 * 2: 507 mod 8 is 3, so that a value is drawn from (507 * 769 + 631) mod 31123.
        pages = new Used();
        Due.is("years(2, 1)", pages.years(2, 1), 1);
        int value = (507 * 769 + 631) % 31123 % 1000;
        Due.holds("the value", pages.holds(value) != NONE);
    }

    private static void undone() {
        Used pages = new Used();
        Due.is("undo() of none", pages.undo(), NONE);
        for (int i = 0; i < 35; i++) {
            pages.give(i);
        }
        Due.is("about(2)", pages.about(2), 30);
        for (int i = 29; i >= 0; i--) {
            Due.is("undo()", pages.undo(), i);
            Due.is("live", pages.is(3), 5 + i);
        }
        Due.is("undo() of none", pages.undo(), NONE);
        Due.is("five are left", pages.is(3), 5);
        Due.is("X", pages.is(1), 18153);
        Due.is("the book, too", pages.book(NONE, 0), 1);
        pages = new Used();
        for (int i = 0; i < 12; i++) {
            pages.free(pages.give(1));
        }
        pages.day(1);
        int address = pages.give(1);
        Due.is("the book is full", pages.book(NONE, 0), 25);
        pages.day(1);
        pages.give(2);
        pages.undo();
        pages.undo();
        pages.free(address);
        Due.is("the eldest is gone", pages.book(0, 1), 1);
        Due.is("undo() of that", pages.undo() >= 0, true);
        Due.is("the eldest is there again", pages.book(0, 1), 0);
        Due.is("the latest, too", pages.book(24, 1), 0);
        Due.is("with its day", pages.book(24, 0), 1);
        pages = Make.withSlots(Make.slots(0, 1), Make.slots(2, 3));
        int value = pages.at(18);
        pages.mesh(0, 1);
        pages.write(18, 5);
        pages.undo();
        Due.is("the value as ahead", pages.at(18), value);
        pages.undo();
        Due.is("apart as ahead", pages.page(1, 0), 1);
        Due.is("meshed as ahead", pages.is(4), 0);
        Due.is("the value as ahead", pages.at(18), value);
        pages.fence(0, 1);
        pages.lift();
        pages.undo();
        Due.is("fenced again", pages.about(5), 1);
        pages.undo();
        Due.is("not fenced", pages.about(5), NONE);
        Make.say(pages, "probes 5;");
        pages.by(0);
        pages.said(1, 1, 1);
        pages.undo();
        Due.is("texts are not taken back", pages.about(0), 1);
        Due.is("nor what rules", pages.about(1), 0);
        Due.is("nor what was said", pages.about(3), 1);
    }

    private static void asked() {
        Used pages = Make.with(18);
        Due.is("at(1)", pages.at(1), 0);
        Due.is("at(22)", pages.at(22), 16);
        Due.is("at(16)", pages.at(16), NONE);
        for (int far : new int[] {-1, -2, 192, Integer.MIN_VALUE, Integer.MAX_VALUE}) {
            Due.is("at(" + far + ")", pages.at(far), NONE);
            Due.is("page(" + far + ", 0)", pages.page(far, 0), -2);
            Due.is("page(0, " + far + ")", pages.page(0, far), -2);
            Due.is("vector(" + far + ", 0)", pages.vector(far, 0), NONE);
            Due.is("vector(0, " + far + ")", pages.vector(0, far), NONE);
            Due.is("frame(" + far + ", 0)", pages.frame(far, 0), -2);
            Due.is("frame(0, " + far + ")", pages.frame(0, far), -2);
            Due.is("is(" + far + ")", pages.is(far), -2);
        }
        Due.is("page(0, 0)", pages.page(0, 0), 0);
        Due.is("page(1, 0)", pages.page(1, 0), 1);
        Due.is("page(0, 1)", pages.page(0, 1), 65535);
        Due.is("page(1, 1)", pages.page(1, 1), 1 << 6 | 1 << 13);
        Due.is("page(0, 2)", pages.page(0, 2), 16);
        Due.is("page(1, 2)", pages.page(1, 2), 2);
        Due.is("page(0, 4)", pages.page(0, 4), NONE);
        Due.is("page(1, 4)", pages.page(1, 4), pages.vector(1, 2));
        Due.is("page(2, 0)", pages.page(2, 0), NONE);
        Due.is("page(2, 4)", pages.page(2, 4), NONE);
        Due.is("page(11, 3)", pages.page(11, 3), 0);
        Due.is("page(12, 0)", pages.page(12, 0), -2);
        Due.is("page(0, 5)", pages.page(0, 5), -2);
        for (int i = 0; i < 16; i++) {
            Due.is("vector(0, " + i + ")", pages.vector(0, i), VECTOR[i]);
        }
        Due.is("vector(0, 16)", pages.vector(0, 16), NONE);
        Due.is("vector(2, 0)", pages.vector(2, 0), NONE);
        Due.is("frame(1, 0)", pages.frame(1, 0), 2);
        Due.is("frame(1, 1)", pages.frame(1, 1), 1 << 6 | 1 << 13);
        Due.is("frame(2, 0)", pages.frame(2, 0), 0);
        Due.is("frame(11, 1)", pages.frame(11, 1), 0);
        Due.is("frame(12, 1)", pages.frame(12, 1), -2);
        Due.is("frame(0, 2)", pages.frame(0, 2), -2);
        Due.is("is(0)", pages.is(0), 0);
        Due.is("is(1)", pages.is(1), 2788);
        Due.is("is(2)", pages.is(2), 2);
        Due.is("is(3)", pages.is(3), 18);
        Due.is("is(4)", pages.is(4), 0);
        Due.is("is(5)", pages.is(5), 3);
        Due.is("is(6)", pages.is(6), -2);
    }

    private static void booked() {
        Used pages = new Used();
        Due.is("book(0, 0) of none", pages.book(0, 0), -2);
        for (int i = 0; i < 13; i++) {
            pages.free(pages.give(1));
        }
        Due.is("the latest 25", pages.book(NONE, 0), 25);
        Due.is("the eldest was closed", pages.book(0, 1), 1);
        Due.is("the latest, too", pages.book(24, 1), 1);
        Due.is("the one ahead was opened", pages.book(23, 1), 0);
        Due.is("opened", pages.ledger(0), 12);
        Due.is("closed", pages.ledger(1), 13);
        Due.is("meshed", pages.ledger(2), 0);
        Due.is("book(25, 0)", pages.book(25, 0), -2);
        Due.is("book(0, 4)", pages.book(0, 4), -2);
        Due.is("book(0, -1)", pages.book(0, -1), -2);
        Due.is("book(-2, 0)", pages.book(-2, 0), -2);
        for (int far : Make.FAR) {
            Due.is("book(" + far + ", 0)", pages.book(far, 0), -2);
            Due.is("book(0, " + far + ")", pages.book(0, far), -2);
            Due.is("ledger(" + far + ")", pages.ledger(far), -2);
        }
        Due.is("ledger(-1)", pages.ledger(-1), -2);
        Due.is("ledger(5)", pages.ledger(5), -2);
        pages = Make.withSlots(Make.slots(0), Make.slots(1), Make.slots(2, 3));
        pages.fence(0, 1);
        pages.lift();
        pages.fence(2, 1);
        pages.move();
        Due.is("opened", pages.ledger(0), 3);
        Due.is("meshed", pages.ledger(2), 1);
        Due.is("fenced", pages.ledger(3), 2);
        Due.is("lifted", pages.ledger(4), 1);
        Due.is("the third page", pages.book(2, 2), 2);
        Due.is("its frame", pages.book(2, 3), 2);
        pages.day(12);
        closeAll(pages);
        int last = pages.book(NONE, 0) - 1;
        Due.is("the latest was closed", pages.book(last, 1), 1);
        Due.is("its DAY", pages.book(last, 0), 12);
        Due.is("new again", pages.page(pages.book(last, 2), 0), NONE);
    }

    private static void closeAll(Used pages) {
        for (int address = 0; address < 192; address++) {
            pages.free(address);
        }
        Due.is("all are new", pages.is(5), 0);
    }

    private static void foretold() {
        Used pages = Make.withSlots(Make.slots(0), Make.slots(1), Make.slots(2), Make.slots(3));
        for (int n : new int[] {0, -1, 61, Integer.MIN_VALUE, Integer.MAX_VALUE}) {
            Due.is("foretold(" + n + ", 0)", pages.foretold(n, 0), NONE);
        }
        for (int what : new int[] {-1, 3, Integer.MIN_VALUE, Integer.MAX_VALUE}) {
            Due.is("foretold(1, " + what + ")", pages.foretold(1, what), NONE);
        }
        pages.mesh(0, 1);
        for (int n = 1; n <= 60; n += 7) {
            int frames = pages.foretold(n, 0);
            int live = pages.foretold(n, 1);
            int meshed = pages.foretold(n, 2);
            Due.is("nothing is changed", pages.is(0), 0);
            Due.is("nor kept", pages.about(2), 30);
            pages.image();
            pages.day(n);
            Due.is("frames behind " + n, pages.is(2), frames);
            Due.is("live behind " + n, pages.is(3), live);
            Due.is("meshed behind " + n + ", those ahead, too", pages.is(4), meshed);
            pages.back();
        }
    }

    private static void clashes() {
        Used pages = Make.withSlots(Make.slots(0, 1, 2), Make.slots(1, 2, 3), Make.slots(5), Make.slots(6));
        Due.is("clash(0, 1)", pages.clash(0, 1), 6);
        Due.is("clash(0, 2)", pages.clash(0, 2), 0);
        Due.is("clash(0, 0), one frame", pages.clash(0, 0), 7);
        for (int far : new int[] {-1, 4, 12, Integer.MIN_VALUE, Integer.MAX_VALUE}) {
            Due.is("clash(0, " + far + ")", pages.clash(0, far), NONE);
            Due.is("clash(" + far + ", 0)", pages.clash(far, 0), NONE);
        }
        Due.is("can(0, 1)", pages.can(0, 1), 4);
        Due.is("can(0, 2)", pages.can(0, 2), 0);
        Due.is("can(0, 0)", pages.can(0, 0), 2);
        Due.is("can(0, 4)", pages.can(0, 4), 1);
        Due.is("can(4, 4)", pages.can(4, 4), 1);
        for (int far : new int[] {-1, 12, Integer.MIN_VALUE, Integer.MAX_VALUE}) {
            Due.is("can(0, " + far + ")", pages.can(0, far), NONE);
            Due.is("can(" + far + ", 0)", pages.can(far, 0), NONE);
        }
        pages.mesh(2, 1);
        Due.is("frames clash", pages.clash(0, 2), 6);
        Due.is("can by frames", pages.can(0, 2), 4);
        Due.is("one frame", pages.can(1, 2), 2);
        Make.say(pages, "meshes 0;");
        pages.by(0);
        Due.is("the law", pages.can(0, 3), 5);
        Due.is("ahead of the law: the clash", pages.can(0, 1), 4);
        pages.by(NONE);
        pages.fence(0, 3);
        pages.by(0);
        Due.is("ahead of both: the fence", pages.can(0, 1), 3);
        Due.is("ahead of it: one frame", pages.can(1, 2), 2);
    }

    private static void odds() {
        Used pages = new Used();
        for (int a = 0; a <= 16; a++) {
            pages = new Used();
            Due.is("odds(" + a + ", 1)", pages.odds(a, 1, false) * 16, (16 - a) * pages.odds(a, 1, true));
            for (int b = 0; b <= 16; b++) {
                long upper = pages.odds(a, b, false);
                long lower = pages.odds(a, b, true);
                Due.is("odds are alike the other way", pages.odds(b, a, false), upper);
                Due.holds("none, if there are too many", (upper == 0) == (a + b > 16));
                Due.holds("0 by 1", upper != 0 || lower == 1);
                Due.holds("sure", (a != 0 && b != 0) || (upper == 1 && lower == 1));
                if (b < 16 && a + b < 16) {
                    // One slot more finds 16 - a - b of 16 - b others beside the first.
                    long more = pages.odds(a, b + 1, false);
                    Due.is("odds by one more", more * lower * (16 - b), pages.odds(a, b + 1, true) * upper * (16 - a - b));
                }
            }
        }
        Due.is("odds(2, 2)", pages.odds(2, 2, false), 91);
        Due.is("odds(2, 2)", pages.odds(2, 2, true), 120);
        Due.is("odds(8, 8)", pages.odds(8, 8, true), 12870);
        for (int far : new int[] {-1, 17, Integer.MIN_VALUE, Integer.MAX_VALUE}) {
            Due.is("odds(" + far + ", 0)", pages.odds(far, 0, false), NONE);
            Due.is("odds(0, " + far + ")", pages.odds(0, far, true), NONE);
        }
    }

    private static void expected() {
        Used pages = new Used();
        Due.is("without pairs", pages.expected(false), 0);
        Due.is("by 1", pages.expected(true), 1);
        pages = Make.withSlots(Make.slots(0));
        Due.is("one frame", pages.expected(false), 0);
        Due.is("by 1", pages.expected(true), 1);
        pages = Make.withSlots(Make.slots(0), Make.slots(0));
        Due.is("15 by 16", pages.expected(false), 15);
        Due.is("15 by 16", pages.expected(true), 16);
        pages = Make.withSlots(Make.slots(0), Make.slots(1), Make.slots(0, 1));
        // 15/16 + 14/16 + 14/16
        Due.is("43 by 16", pages.expected(false), 43);
        Due.is("43 by 16", pages.expected(true), 16);
        pages.fence(0, 1);
        Due.is("those fenced, too", pages.expected(false), 43);
        pages.move();
        // 91/120
        Due.is("meshed: 91 by 120", pages.expected(false), 91);
        Due.is("meshed: 91 by 120", pages.expected(true), 120);
        pages = Make.with(17);
        Due.is("a full one", pages.expected(false), 0);
        Due.is("by 1", pages.expected(true), 1);
        pages = Make.withSlots(Make.slots(0), Make.slots(0), Make.slots(0), Make.slots(0), Make.slots(0), Make.slots(0), Make.slots(0), Make.slots(0), Make.slots(0),
            Make.slots(0), Make.slots(0), Make.slots(0));
        // 66 pairs of 15/16
        Due.is("495 by 8", pages.expected(false), 495);
        Due.is("495 by 8", pages.expected(true), 8);
    }

    private static void matched() {
        Used pages = new Used();
        Due.is("most() of none", pages.most(), 0);
        Due.is("mate(0) of none", pages.mate(0), NONE);
        // A path 1 - 0 - 2 - 3 of those that do not clash.
        pages = Make.withSlots(Make.slots(0), Make.slots(1, 2, 3), Make.slots(1, 4), Make.slots(0, 2));
        Due.is("a path: two pairs", pages.most(), 2);
        Due.is("mate(0)", pages.mate(0), 1);
        Due.is("mate(1)", pages.mate(1), 0);
        Due.is("mate(2)", pages.mate(2), 3);
        Due.is("mate(3)", pages.mate(3), 2);
        // 0 goes with 1 and 2, 1 with 0 alone, 2 with 0 alone, so one has none: the lowest row gives 0 the mate 1.
        pages = Make.withSlots(Make.slots(0), Make.slots(1, 2), Make.slots(1, 3));
        Due.is("a star: one pair", pages.most(), 1);
        Due.is("mate(0)", pages.mate(0), 1);
        Due.is("mate(2)", pages.mate(2), NONE);
        // 0 with 1 would leave 2 and 3, which clash: 0 must go with 2, 1 with 3, if 2 goes with 0 alone.
        pages = Make.withSlots(Make.slots(0), Make.slots(1, 5), Make.slots(1, 2, 5), Make.slots(0, 2));
        Due.is("two pairs", pages.most(), 2);
        Due.is("mate(0) is not the lowest", pages.mate(0), 2);
        Due.is("mate(1)", pages.mate(1), 3);
        for (int frame : new int[] {-1, 4, 12, Integer.MIN_VALUE, Integer.MAX_VALUE}) {
            Due.is("mate(" + frame + ")", pages.mate(frame), NONE);
        }
        Make.say(pages, "meshes 0;");
        pages.by(0);
        Due.is("meshes aside", pages.most(), 2);
        pages.by(NONE);
        pages.fence(0, 1);
        Due.is("fences aside", pages.most(), 2);
        pages.lift();
        pages.mesh(0, 2);
        Due.is("by frames: 0 is free now", pages.mate(0), NONE);
        pages = Make.withSlots(Make.slots(0), Make.slots(1), Make.slots(2), Make.slots(3), Make.slots(4), Make.slots(5), Make.slots(6), Make.slots(7), Make.slots(8),
            Make.slots(9), Make.slots(10), Make.slots(11));
        Due.is("six pairs", pages.most(), 6);
        for (int frame = 0; frame < 12; frame++) {
            Due.is("mate(" + frame + ")", pages.mate(frame), frame ^ 1);
        }
    }

    private static void fewest() {
        Used pages = new Used();
        Due.is("fewest() of none", pages.fewest(), 0);
        pages = Make.withSlots(Make.slots(0), Make.slots(0), Make.slots(0));
        Due.is("all clash", pages.fewest(), 3);
        pages = Make.withSlots(Make.slots(0), Make.slots(1), Make.slots(2));
        Due.is("all together", pages.fewest(), 1);
        // Five that clash in a ring: no two frames can do, though no slot is in three.
        pages = Make.withSlots(Make.slots(0, 1), Make.slots(1, 2), Make.slots(2, 3), Make.slots(3, 4), Make.slots(4, 0));
        Due.is("a ring of five", pages.fewest(), 3);
        pages = Make.withSlots(Make.slots(0, 1), Make.slots(1, 2), Make.slots(2, 3), Make.slots(3, 0));
        Due.is("a ring of four", pages.fewest(), 2);
        Make.say(pages, "meshes 0;");
        pages.by(0);
        Due.is("laws aside", pages.fewest(), 2);
        pages = Make.withSlots(Make.slots(0), Make.slots(1), Make.slots(1), Make.slots(0));
        Due.is("two", pages.fewest(), 2);
        pages.mesh(0, 1);
        Due.is("those of one frame stay so", pages.fewest(), 2);
        pages = Make.withSlots(Make.slots(0), Make.slots(1), Make.slots(0, 2), Make.slots(1, 3));
        Due.is("two", pages.fewest(), 2);
        pages.mesh(0, 1);
        Due.is("0 and 1 clash with both", pages.fewest(), 2);
        pages = Make.withSlots(Make.slots(0), Make.slots(1), Make.slots(0, 1));
        pages.mesh(0, 1);
        Due.is("two", pages.fewest(), 2);
        Due.is("all full", Make.with(192).fewest(), 12);
        // The third clashes with none of the second, the fourth of the sixth, the fifth of the first.
        pages = Make.withSlots(Make.slots(1, 6), Make.slots(1, 2), Make.slots(3, 5, 6), Make.slots(2, 3, 5), Make.slots(0, 5), Make.slots(0, 4, 6));
        Due.is("three, though not by the first way", pages.fewest(), 3);
        pages = Make.withSlots(Make.slots(0, 2, 7), Make.slots(0, 1, 3), Make.slots(0, 4, 5), Make.slots(1, 6, 7), Make.slots(3, 5), Make.slots(2, 3, 7), Make.slots(3, 6));
        Due.is("four, though not by the first way", pages.fewest(), 4);
    }

    private static void sparse() {
        Used pages = new Used();
        Due.is("sparse() of none", pages.sparse(), 0);
        pages = Make.withSlots(Make.slots(0, 1, 2, 3, 4, 5, 6, 7), Make.slots(0, 1, 2, 3, 4, 5, 6, 7, 8), Make.slots(15), Make.slots(14));
        Due.is("eight or fewer", pages.sparse(), 13);
        pages.fence(2, 3);
        Due.is("neither that goes nor that stays", pages.sparse(), 1);
        pages.move();
        Due.is("both in frame 2", pages.sparse(), 5);
        pages.mesh(0, 2);
        Due.is("ten in frame 0", pages.sparse(), 0);
    }

    private static void patterns() {
        Used pages = Make.withSlots(Make.slots(0, 1, 3, 4, 5, 9, 15), Make.slots(1, 3, 15), Make.slots(0));
        Due.is("runs(0)", pages.runs(0), 4);
        Due.is("longest(0)", pages.longest(0), 3);
        Due.is("runs(1)", pages.runs(1), 3);
        Due.is("longest(1)", pages.longest(1), 1);
        Due.is("runs of a full one", Make.with(16).runs(0), 1);
        Due.is("longest of a full one", Make.with(16).longest(0), 16);
        Due.is("find live", pages.find(0, 1, 1), 0);
        Due.is("find one that is not", pages.find(0, 0, 1), 2);
        Due.is("find from the lowest bit on", pages.find(0, 5, 3), 1);
        Due.is("find 111", pages.find(0, 7, 3), 3);
        Due.is("find 1111", pages.find(0, 15, 4), NONE);
        Due.is("find 00001", pages.find(0, 16, 5), 5 + 6);
        Due.is("find all", pages.find(0, 1 | 2 | 8 | 16 | 32 | 512 | 32768, 16), 0);
        Due.is("not around the end", pages.find(0, 7, 3) == 15, false);
        Due.is("find at the end", pages.find(0, 2, 2), 2);
        Due.is("find 10 at 14", pages.find(2, 0, 15), 1);
        Due.is("find(0, 2, 1): no bits of 1", pages.find(0, 2, 1), NONE);
        Due.is("find(0, 65536, 16)", pages.find(0, 65536, 16), NONE);
        Due.is("find(0, -1, 16)", pages.find(0, -1, 16), NONE);
        Due.is("find(0, 0, 0)", pages.find(0, 0, 0), NONE);
        Due.is("find(0, 0, 17)", pages.find(0, 0, 17), NONE);
        for (int far : new int[] {-1, 3, 12, Integer.MIN_VALUE, Integer.MAX_VALUE}) {
            Due.is("runs(" + far + ")", pages.runs(far), NONE);
            Due.is("longest(" + far + ")", pages.longest(far), NONE);
            Due.is("find(" + far + ", 0, 1)", pages.find(far, 0, 1), NONE);
            Due.is("same(0, " + far + ")", pages.same(0, far), NONE);
            Due.is("same(" + far + ", 0)", pages.same(far, 0), NONE);
            Due.is("sum(" + far + ")", pages.sum(far), NONE);
        }
        for (int far : Make.FAR) {
            Due.is("find(0, 0, " + far + ")", pages.find(0, 0, far), NONE);
            Due.is("find(0, " + far + ", 16)", pages.find(0, far, 16), NONE);
        }
        // In both: 1, 3, 15; in one: 0, 4, 5, 9.
        Due.is("same(0, 1)", pages.same(0, 1), 12);
        Due.is("same(1, 1)", pages.same(1, 1), 16);
        Due.is("fullest()", pages.fullest(), 0);
        Due.is("fullest() of none", new Used().fullest(), NONE);
        Due.is("fullest of like ones", Make.withSlots(Make.slots(3), Make.slots(1, 2), Make.slots(4, 5)).fullest(), 1);
    }

    private static void values() {
        Used pages = Make.with(20);
        Due.is("sum(0)", pages.sum(0), 120);
        Due.is("sum(1)", pages.sum(1), 16 + 17 + 18 + 19);
        Due.is("holds(16)", pages.holds(16), 22);
        Due.is("holds(20)", pages.holds(20), NONE);
        pages.write(22, 3);
        Due.is("the first address of two", pages.holds(3), VECTOR[3]);
        pages.write(0, 3);
        Due.is("the first address of three", pages.holds(3), 0);
        pages.free(0);
        Due.is("those live", pages.holds(3), VECTOR[3]);
        Due.is("holds(-1)", pages.holds(-1), NONE);
        Due.is("holds(1000)", pages.holds(1000), NONE);
        for (int far : Make.FAR) {
            Due.is("holds(" + far + ")", pages.holds(far), NONE);
        }
        pages.write(22, 999);
        Due.is("holds(999)", pages.holds(999), 22);
        Due.is("sum(1)", pages.sum(1), 999 + 17 + 18 + 19);
        pages = Make.withSlots(Make.slots(0, 3), Make.slots(1, 2));
        int first = pages.sum(0);
        int second = pages.sum(1);
        pages.mesh(0, 1);
        Due.is("each page its own, meshed", pages.sum(0), first);
        Due.is("each page its own, meshed", pages.sum(1), second);
        Due.is("sound", pages.sound(), true);
        Due.is("sound at first", new Used().sound(), true);
    }

    private static void laws() {
        Used pages = Make.withSlots(Make.slots(0, 1), Make.slots(2), Make.slots(3));
        Due.is("without a text", pages.meshes(0, 1), true);
        Make.say(pages, "meshes one - other;");
        Make.say(pages, "probes 2;");
        Make.say(pages, "meshes -1;");
        pages.by(0);
        Due.is("2 - 1", pages.meshes(0, 1), true);
        Due.is("1 - 2", pages.meshes(1, 0), false);
        Due.is("1 - 1: it must be above 0", pages.meshes(1, 2), false);
        Due.is("itself", pages.meshes(0, 0), false);
        pages.by(1);
        Due.is("a text without it", pages.meshes(1, 0), true);
        Due.is("probes", pages.probes(), 2);
        pages.by(2);
        Due.is("below 0", pages.meshes(0, 1), false);
        Due.is("a text without probes", pages.probes(), 3);
        pages.by(NONE);
        for (int far : new int[] {-1, 3, 12, Integer.MIN_VALUE, Integer.MAX_VALUE}) {
            Due.is("meshes(0, " + far + ")", pages.meshes(0, far), false);
            Due.is("meshes(" + far + ", 0)", pages.meshes(far, 0), false);
        }
        pages.mesh(1, 2);
        pages.by(0);
        Due.is("by frames: 2 - 2", pages.meshes(0, 1), false);
    }

    /** Three pages, of two, one and one live slots, the latter two in frame 1, behind three days. */
    private static void sum(String sum, int worth) {
        Used pages = Make.withSlots(Make.slots(0, 1), Make.slots(2), Make.slots(3));
        pages.mesh(1, 2);
        Make.say(pages, "probes if " + sum + " = " + (worth < 0 ? "-" : "") + Math.abs(worth) + " then 5 else 6 end;");
        Due.is("fault of " + sum, pages.fault(0), 0);
        pages.by(0);
        Due.is("probes of " + sum + " is " + worth, pages.probes(), 5);
    }

    private static void sums() {
        sum("1 + 2 * 3", 7);
        sum("10 - 3 - 2", 5);
        sum("(1 + 2) * 3", 9);
        sum("100 / 7 / 2", 7);
        sum("2 * 3 / 4 * 5", 5);
        sum("-7 / 2", -3);
        sum("7 / -2", -3);
        sum("7 / 0", 0);
        sum("7 / (3 - 3) + 1", 1);
        sum("--5", 5);
        sum("3 - -2", 5);
        sum("- 2 * 3", -6);
        sum("9999 * 9999 / 1000", 1000);
        sum("-9999 * 9999 / 1000", -1000);
        sum("9999 * 9999 - 9999 * 9999", 0);
        sum("9999 * 9999 - 1000 * 1000", 0);
        sum("1000 * 1000 + 1 - 1000 * 1000", 0);
        sum("1000 * 1000 - 1 - 1000 * 1000", -1);
        sum("1000 * 1000 - -9999 * 9999 - 1000 * 1000", 0);
        sum("1000 * 1000 + -9999 * 9999", 0);
        // 999900 and 9999 are cut at 1000000, so that 9000 less is 991000.
        sum("(9999 * 100 + 9999 - 9000) / 1000", 991);
        sum("(-9999 * 100 - 9999 + 9000) / 1000", -991);
        sum("time", 0);
        sum("pages", 3);
        sum("frames", 2);
        sum("sparse", 2);
        sum("live 0", 2);
        sum("live 1", 1);
        sum("live 3", 0);
        sum("live 11", 0);
        sum("live 12", 0);
        sum("live -1", 0);
        sum("live 0 + 1", 3);
        sum("place 0", 1);
        sum("place 1", 2);
        sum("place 2", 2);
        sum("place 3", 0);
        sum("place 12", 0);
        sum("place -1", 0);
        sum("live place 0", 1);
        sum("if 1 < 2 then 3 else 4 end", 3);
        sum("if 2 < 2 then 3 else 4 end", 4);
        sum("if 2 <= 2 then 3 else 4 end", 3);
        sum("if 2 > 2 then 3 else 4 end", 4);
        sum("if 3 > 2 then 3 else 4 end", 3);
        sum("if 2 >= 3 then 3 else 4 end", 4);
        sum("if 2 # 3 then 3 else 4 end", 3);
        sum("if not 2 # 3 then 3 else 4 end", 4);
        sum("if not not 2 # 3 then 3 else 4 end", 3);
        sum("if 1 = 1 or 1 = 1 and 1 = 2 then 3 else 4 end", 3);
        sum("if 1 = 2 and 1 = 2 or 1 = 1 then 3 else 4 end", 3);
        sum("if not 1 = 2 and 1 = 2 then 3 else 4 end", 4);
        sum("if 1 = 2 or 1 = 2 then 3 else 4 end * 2 + 1", 9);
        sum("if 1 = 1 then if 1 = 2 then 3 else 4 end else 5 end", 4);
        sum("if 1 + 1 = 4 / 2 then 1 - 2 else 4 end", -1);
    }

    private static void said() {
        Used pages = new Used();
        Make.say(pages, "meshes one - other;");
        Make.say(pages, "probes 1;");
        Make.say(pages, "meshes other - one;");
        Due.is("nothing said: all", pages.whose(), 7);
        Due.is("said(3, 2, 1)", pages.said(3, 2, 1), 1);
        Due.is("whose()", pages.whose(), 3);
        Due.is("said(2, 3, 0)", pages.said(2, 3, 0), 2);
        Due.is("whose()", pages.whose(), 1);
        Due.is("said(0, 0, 0)", pages.said(0, 0, 0), 3);
        Due.is("said(16, 16, 0)", pages.said(16, 16, 0), 4);
        Due.is("whose()", pages.whose(), 1);
        Due.is("said(16, 0, 0)", pages.said(16, 0, 0), 5);
        Due.is("whose()", pages.whose(), 0);
        Due.is("said(17, 0, 0)", pages.said(17, 0, 0), -2);
        Due.is("said(-2, 0, 0)", pages.said(-2, 0, 0), -2);
        Due.is("said(0, 17, 0)", pages.said(0, 17, 0), -2);
        Due.is("said(0, -1, 0)", pages.said(0, -1, 0), -2);
        Due.is("said(0, 0, 2)", pages.said(0, 0, 2), -2);
        Due.is("said(0, 0, -1)", pages.said(0, 0, -1), -2);
        for (int far : Make.FAR) {
            Due.is("said(" + far + ", 0, 0)", pages.said(far, 0, 0), -2);
            Due.is("said(0, " + far + ", 0)", pages.said(0, far, 0), -2);
            Due.is("said(0, 0, " + far + ")", pages.said(0, 0, far), -2);
        }
        Due.is("said again", pages.said(16, 0, 0), 6);
        Due.is("said again", pages.said(16, 0, 0), 7);
        Due.is("said again", pages.said(16, 0, 0), 8);
        Due.is("the ninth", pages.said(16, 0, 0), -2);
        Due.is("about(3)", pages.about(3), 8);
        Due.is("none any more", pages.said(NONE, 0, 0), 0);
        Due.is("whose()", pages.whose(), 7);
        Due.is("said(2, 3, 1)", pages.said(2, 3, 1), 1);
        Due.is("whose()", pages.whose(), 6);
        Due.is("what rules is another thing", pages.by(0), true);
        Due.is("whose()", pages.whose(), 6);
        Make.say(pages, "meshes frames;");
        Due.is("all else as now: no frames", pages.whose(), 6);
        pages.give(1);
        Due.is("one frame", pages.whose(), 14);
        Due.is("no texts", new Used().whose(), 0);
        pages.said(NONE, 5, 5);
        pages.said(3, 2, 1);
        Due.is("by the first two and the last", pages.whose(), 11);
        pages.image();
        pages.said(NONE, 0, 0);
        pages.said(2, 3, 1);
        Due.is("by the others", pages.whose(), 14);
        pages.back();
        Due.is("what was said is said again", pages.whose(), 11);
    }

    private static void imaged() {
        Used pages = Make.with(3);
        pages.day(5);
        Make.say(pages, "probes 4;");
        pages.by(0);
        pages.said(1, 2, 1);
        int x = pages.is(1);
        int live = pages.is(3);
        Due.is("image()", pages.image(), 5);
        Make.feed(pages, "give x;");
        pages.day(10);
        pages.text();
        Make.say(pages, "probes 5;");
        pages.by(1);
        pages.said(NONE, 0, 0);
        Make.feed(pages, "give 1;");
        Due.is("back()", pages.back(), 5);
        Due.is("X", pages.is(1), x);
        Due.is("live", pages.is(3), live);
        Due.is("texts", pages.about(0), 1);
        Due.is("what rules", pages.about(1), 0);
        Due.is("said", pages.about(3), 1);
        Due.is("steps", pages.about(2), 8);
        Due.is("but the tape", pages.about(4), 7);
        Due.is("text() of it", pages.text(), 1);
        Make.say(pages, "give;");
        pages.back();
        Due.is("and the latest fault", pages.fault(0), 1);
        Due.is("its place", pages.fault(1), 4);
        Due.is("the text is gone", pages.about(0), 1);
        Due.is("probes by the first one", pages.probes(), 4);
        for (int i = 7; i >= 0; i--) {
            Due.is("steps of the image can be taken back", pages.undo(), i);
        }
        Due.is("to the first", pages.is(3), 0);
        pages.give(9);
        pages.give(9);
        Due.is("the image stays", pages.back(), 5);
        Due.is("with its steps", pages.about(2), 8);
        Due.is("X", pages.is(1), x);
        Due.is("undo() once", pages.undo(), 7);
        Due.is("DAY", pages.is(0), 4);
        Due.is("another image", pages.image(), 4);
        pages.day(1);
        Due.is("back() to it", pages.back(), 4);
        pages = Make.withSlots(Make.slots(0, 1), Make.slots(2, 3));
        pages.fence(0, 1);
        pages.move();
        pages.image();
        pages.move();
        pages.back();
        Due.is("the fence, too", pages.about(5), 1);
        Due.is("what is to copy", pages.about(6), 1);
        pages.lift();
        Due.is("undo() of what came later", pages.undo(), 29);
        Due.is("fenced", pages.about(5), 1);
    }

    private static void about() {
        Used pages = new Used();
        for (int what : new int[] {-1, -2, 7, Integer.MIN_VALUE, Integer.MAX_VALUE}) {
            Due.is("about(" + what + ")", pages.about(what), -2);
        }
        int[] due = {0, NONE, 0, 0, 0, NONE, 0};
        for (int what = 0; what < 7; what++) {
            Due.is("about(" + what + ")", pages.about(what), due[what]);
        }
    }
}
