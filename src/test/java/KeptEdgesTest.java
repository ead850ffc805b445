/** Promises 45 to 50, part IV and the image: a test for each sentence that names a boundary. */
public final class KeptEdgesTest {
    private static final int NONE = Used.NONE;

    public static void main(String[] args) {
        Due.sentence("45: how many there are", KeptEdgesTest::said);
        Due.sentence("45: one NONE: none any more", KeptEdgesTest::saidNone);
        Due.sentence("45: if there are 8", KeptEdgesTest::saidEight);
        Due.sentence("45: -2 for others (0 .. 16 each; 0, 1)", KeptEdgesTest::otherSaid);
        Due.sentence("46: TEXTS by whose meshes all are so", KeptEdgesTest::whose);
        Due.sentence("46: a TEXT without it", KeptEdgesTest::whoseWithout);
        Due.sentence("46: all else as now", KeptEdgesTest::whoseNow);
        Due.sentence("47: how many lines there are of a kind", KeptEdgesTest::ledger);
        Due.sentence("47: -2 for others (0 .. 4)", KeptEdgesTest::otherLedger);
        Due.sentence("48: DAY", KeptEdgesTest::imageDay);
        Due.sentence("48: all as it is, but the tape and the latest FAULT", KeptEdgesTest::butTheTape);
        Due.sentence("49: BACK, it stays", KeptEdgesTest::backStays);
        Due.sentence("49: all is so again", KeptEdgesTest::allIsSoAgain);
        Due.sentence("49: its STEPS, too", KeptEdgesTest::stepsOfImage);
        Due.sentence("50: about", KeptEdgesTest::about);
        Due.sentence("50: TEXTS and THE TEXT", KeptEdgesTest::aboutTexts);
        Due.sentence("50: the FRAME that is FENCED, how many SLOTS of it", KeptEdgesTest::aboutFence);
        Due.sentence("50: -2 for others", KeptEdgesTest::otherAbout);
        Due.end();
    }

    private static void said() {
        Used pages = new Used();
        int[][] told = {{0, 0, 0}, {16, 16, 1}, {0, 16, 0}, {16, 0, 1}, {1, 15, 0}, {15, 1, 1}, {8, 8, 0}, {8, 8, 0}};
        for (int i = 0; i < told.length; i++) {
            Due.is("about(3)", pages.about(3), i);
            Due.is("said", pages.said(told[i][0], told[i][1], told[i][2]), i + 1);
        }
        Due.is("about(3)", pages.about(3), 8);
    }

    private static void saidNone() {
        Used pages = new Used();
        Due.is("of none", pages.said(NONE, 0, 0), 0);
        pages.said(1, 1, 0);
        pages.said(1, 1, 1);
        Due.is("of two", pages.said(NONE, 0, 0), 0);
        Due.is("about(3)", pages.about(3), 0);
        Due.is("the next is the first", pages.said(3, 3, 1), 1);
        Make.say(pages, "meshes one-2;");
        Make.say(pages, "meshes 3-one;");
        Due.is("by it alone", pages.whose(), 1);
        for (int i = 1; i < 8; i++) {
            pages.said(i, i, 1);
        }
        Due.is("of eight", pages.said(NONE, 16, 1), 0);
        Due.is("about(3)", pages.about(3), 0);
        Due.is("all, by none", pages.whose(), 3);
        for (int far : new int[] {Integer.MIN_VALUE, -1, 17, Integer.MAX_VALUE}) {
            pages.said(1, 1, 1);
            Due.is("whatever is told beside it", pages.said(NONE, far, 0), 0);
            Due.is("about(3)", pages.about(3), 0);
            pages.said(1, 1, 1);
            Due.is("whatever is told beside it", pages.said(NONE, 0, far), 0);
            Due.is("about(3)", pages.about(3), 0);
        }
    }

    private static void saidEight() {
        Used pages = new Used();
        Make.say(pages, "meshes one;");
        for (int i = 1; i <= 8; i++) {
            Due.is("said", pages.said(i, i, 1), i);
        }
        Due.is("the ninth", pages.said(0, 0, 1), -2);
        Due.is("about(3)", pages.about(3), 8);
        Due.is("it is not SAID", pages.whose(), 1);
        Due.is("the ninth again", pages.said(16, 16, 0), -2);
        Due.is("one of no kind", pages.said(17, 0, 0), -2);
        Due.is("none any more", pages.said(NONE, 0, 0), 0);
        Due.is("then the first", pages.said(0, 0, 1), 1);
        Due.is("whose()", pages.whose(), 0);
    }

    private static void otherSaid() {
        Used pages = new Used();
        for (int far : new int[] {Integer.MIN_VALUE, -3, -2, 17, 18, Integer.MAX_VALUE}) {
            Due.is("said(" + far + ", 0, 0)", pages.said(far, 0, 0), -2);
            Due.is("said(0, " + far + ", 0)", pages.said(0, far, 0), -2);
            Due.is("said(0, 0, " + far + ")", pages.said(0, 0, far), -2);
        }
        Due.is("said(0, -1, 0)", pages.said(0, -1, 0), -2);
        Due.is("said(0, 0, -1)", pages.said(0, 0, -1), -2);
        Due.is("said(0, 0, 2)", pages.said(0, 0, 2), -2);
        Due.is("none is SAID", pages.about(3), 0);
        Due.is("said(16, 16, 1)", pages.said(16, 16, 1), 1);
    }

    private static void whose() {
        Used pages = new Used();
        Due.is("no TEXTS", pages.whose(), 0);
        Make.say(pages, "meshes one-other;");
        Make.say(pages, "meshes other-one;");
        Make.say(pages, "meshes 1;");
        Make.say(pages, "meshes 0;");
        Due.is("nothing SAID: all", pages.whose(), 15);
        pages.said(16, 0, 1);
        Due.is("16 and 0 are let", pages.whose(), 5);
        pages.said(0, 16, 0);
        Due.is("0 and 16 are not", pages.whose(), 1);
        pages.said(5, 5, 0);
        Due.is("5 and 5 are not", pages.whose(), 1);
        pages.said(5, 5, 1);
        Due.is("both can't be", pages.whose(), 0);
        pages.said(NONE, 0, 0);
        pages.said(7, 7, 0);
        Due.is("at 0 it lets none", pages.whose(), 11);
        pages.said(7, 8, 1);
        Due.is("the second one's", pages.whose(), 2);
        pages.said(NONE, 0, 0);
        for (int i = 0; i < 7; i++) {
            pages.said(i + 1, i, 1);
        }
        pages.said(0, 1, 1);
        Due.is("all eight are looked at", pages.whose(), 4);
    }

    private static void whoseWithout() {
        Used pages = new Used();
        Make.say(pages, "");
        Make.say(pages, "probes 0;give 1;");
        Make.say(pages, "meshes 0;");
        pages.said(3, 3, 1);
        Due.is("it does let", pages.whose(), 3);
        pages.by(2);
        Due.is("by what is so without, not by what rules", pages.whose(), 3);
        pages.said(NONE, 0, 0);
        pages.said(3, 3, 0);
        Due.is("it does not", pages.whose(), 4);
        Make.say(pages, "meshes 0;give");
        Due.is("one with a fault is none", pages.whose(), 4);
    }

    private static void whoseNow() {
        Used pages = new Used();
        Make.say(pages, "meshes time-2;");
        Make.say(pages, "meshes frames;");
        Make.say(pages, "meshes pages*10+live 0-11;");
        Make.say(pages, "meshes place 1;");
        pages.said(9, 9, 1);
        Due.is("on DAY 0 of a new object", pages.whose(), 0);
        Make.giveTimes(pages, 1);
        Due.is("one PAGE, one SLOT", pages.whose(), 2);
        Make.giveTimes(pages, 1);
        Due.is("two SLOTS", pages.whose(), 6);
        Make.giveTimes(pages, 15);
        Due.is("two PAGES", pages.whose(), 14);
        pages.day(2);
        Due.is("DAY 2", pages.whose() & 1, 0);
        pages.day(1);
        Due.is("DAY 3", pages.whose() & 1, 1);
        pages.undo();
        Due.is("DAY 2 again", pages.whose() & 1, 0);
    }

    private static void ledger() {
        Used pages = new Used();
        for (int what = 0; what < 5; what++) {
            Due.is("ledger(" + what + ") of none", pages.ledger(what), 0);
        }
        for (int i = 1; i <= 12; i++) {
            pages.free(pages.give(1));
            Due.is("opened", pages.ledger(0), i);
            Due.is("closed", pages.ledger(1), i);
        }
        int address = pages.give(1);
        Due.is("opened", pages.ledger(0), 13);
        pages.free(address);
        Due.is("the eldest is gone: opened", pages.ledger(0), 12);
        Due.is("closed", pages.ledger(1), 13);
        pages.undo();
        pages.undo();
        Due.is("opened", pages.ledger(0), 12);
        Due.is("closed", pages.ledger(1), 12);
        pages = Make.withSlots(Make.slots(0), Make.slots(1), Make.slots(2), Make.slots(3));
        for (int i = 0; i < 7; i++) {
            pages.fence(0, 1);
            pages.lift();
        }
        pages.fence(0, 1);
        pages.move();
        pages.mesh(2, 3);
        int[] counts = {4, 0, 2, 8, 7};
        for (int what = 0; what < 5; what++) {
            Due.is("ledger(" + what + ")", pages.ledger(what), counts[what]);
        }
        for (int i = 0; i < 4; i++) {
            pages.fence(0, 2);
            pages.lift();
        }
        int together = 0;
        for (int what = 0; what < 5; what++) {
            together += pages.ledger(what);
        }
        Due.is("all lines of the latest 25", together, 25);
        Due.is("opened ones are gone", pages.ledger(0), 0);
        Due.is("lifted", pages.ledger(4), 11);
    }

    private static void otherLedger() {
        Used pages = Make.with(20);
        for (int what : new int[] {Integer.MIN_VALUE, -2, -1, 5, 6, 15, 16, Integer.MAX_VALUE}) {
            Due.is("ledger(" + what + ")", pages.ledger(what), -2);
        }
        Due.is("ledger(4)", pages.ledger(4), 0);
    }

    private static void imageDay() {
        Used pages = new Used();
        Due.is("image()", pages.image(), 0);
        pages.day(17);
        Due.is("image()", pages.image(), 17);
        pages.day(3);
        Due.is("back()", pages.back(), 17);
        Due.is("DAY", pages.is(0), 17);
        Make.passTo(pages, 9999);
        Due.is("image()", pages.image(), 9999);
        pages.undo();
        Due.is("DAY", pages.is(0), 9998);
        Due.is("back()", pages.back(), 9999);
    }

    private static void butTheTape() {
        Used pages = new Used();
        Make.say(pages, "give");
        Make.feed(pages, "give 1;");
        pages.image();
        Make.feed(pages, "give 1;give 2;");
        pages.back();
        Due.is("the tape stays", pages.about(4), 14);
        Due.is("the latest FAULT stays", pages.fault(1), 4);
        Due.is("text()", pages.text(), 0);
        Due.is("no FAULT", pages.fault(0), 0);
        pages.back();
        Due.is("the latest FAULT is none yet", pages.fault(0), 0);
        Due.is("the TEXT is no more", pages.about(0), 0);
        Due.is("nor can it rule", pages.by(0), false);
        Due.is("nor be played", pages.played(0), -2);
        Make.say(pages, "  day 0;");
        pages.back();
        Due.is("FAULT", pages.fault(0), 2);
        Due.is("its place", pages.fault(1), 6);
        pages = new Used();
        pages.back();
        Due.is("ahead of any", pages.fault(0), NONE);
    }

    private static void backStays() {
        Used pages = Make.with(3);
        pages.image();
        for (int i = 0; i < 5; i++) {
            pages.give(9);
            pages.day(2);
            Due.is("back()", pages.back(), 0);
            Due.is("is(3)", pages.is(3), 3);
        }
        Due.is("twice", pages.back(), 0);
        pages.give(9);
        pages.image();
        pages.give(9);
        pages.back();
        Due.is("the latest image", pages.is(3), 4);
    }

    private static void much(Used pages) {
        Make.say(pages, "meshes one;probes time;");
        Make.rule(pages, "meshes 5;probes 7;");
        pages.said(3, 4, 1);
        pages.said(0, 4, 0);
        Make.giveTimes(pages, 48);
        Make.freeOthers(pages, Make.slots(0, 1, 2), Make.slots(3, 4), Make.slots(5));
        pages.day(3);
        pages.image();
    }

    private static void muchFenced(Used pages) {
        much(pages);
        pages.undo();
        pages.undo();
        pages.undo();
        pages.fence(0, 1);
        pages.move();
        pages.image();
    }

    private static void allIsSoAgain() {
        Same.butTheTape(pages -> {
            much(pages);
            pages.day(40);
            pages.years(3, 40);
            Make.rule(pages, "meshes 0;probes 1;");
            pages.said(NONE, 0, 0);
            pages.said(9, 9, 1);
            pages.back();
        }, KeptEdgesTest::much);
        Same.butTheTape(pages -> {
            muchFenced(pages);
            pages.move();
            pages.write(19, 999);
            pages.mesh(0, 2);
            for (int i = 0; i < 10; i++) {
                pages.undo();
            }
            pages.by(0);
            pages.back();
        }, KeptEdgesTest::muchFenced);
        Same.butTheTape(pages -> {
            muchFenced(pages);
            pages.lift();
            pages.day(5);
            pages.back();
        }, KeptEdgesTest::muchFenced);
        Same.butTheTape(pages -> {
            muchFenced(pages);
            pages.by(NONE);
            pages.said(1, 1, 1);
            pages.back();
        }, KeptEdgesTest::muchFenced);
        Used pages = new Used();
        Make.say(pages, "meshes one-2;");
        Make.say(pages, "meshes 3-one;");
        pages.said(5, 5, 1);
        pages.image();
        pages.said(NONE, 0, 0);
        pages.said(1, 1, 1);
        Due.is("whose()", pages.whose(), 2);
        pages.back();
        Due.is("whose(), by what was SAID", pages.whose(), 1);
        pages = new Used();
        Make.say(pages, "probes 1;");
        Make.say(pages, "probes 2;");
        pages.image();
        Make.say(pages, "probes 3;");
        Make.say(pages, "probes 4;");
        pages.by(3);
        pages.back();
        Due.is("about(0)", pages.about(0), 2);
        Due.is("about(1)", pages.about(1), NONE);
        Due.is("probes()", pages.probes(), 3);
        Due.is("the next TEXT is 2", Make.say(pages, "probes 5;"), 2);
        for (int text = 0; text < 3; text++) {
            pages.by(text);
            Due.is("probes() by " + text, pages.probes(), text == 2 ? 5 : text + 1);
        }
    }

    private static void stepsOfImage() {
        Used pages = Make.with(5);
        pages.image();
        pages.undo();
        pages.undo();
        pages.back();
        Due.is("about(2)", pages.about(2), 5);
        for (int i = 0; i < 40; i++) {
            pages.write(1, i);
        }
        pages.back();
        for (int left = 4; left >= 0; left--) {
            Due.is("undo()", pages.undo(), left);
            Due.is("is(3)", pages.is(3), left);
        }
        Due.is("no more", pages.undo(), NONE);
        pages = Make.with(77);
        pages.image();
        for (int i = 0; i < 17; i++) {
            pages.undo();
        }
        pages.give(1);
        pages.back();
        for (int left = 29; left >= 0; left--) {
            Due.is("undo() of thirty", pages.undo(), left);
            Due.is("is(3)", pages.is(3), 47 + left);
        }
        pages.back();
        Due.is("again", pages.about(2), 30);
        pages.give(1);
        Due.is("is(3)", pages.is(3), 78);
        for (int left = 29; left >= 0; left--) {
            pages.undo();
        }
        Due.is("one has fallen out", pages.is(3), 48);
    }

    private static void about() {
        int[] due = {0, NONE, 0, 0, 0, NONE};
        Used pages = new Used();
        for (int what = 0; what < due.length; what++) {
            Due.is("about(" + what + ")", pages.about(what), due[what]);
        }
        for (int i = 1; i <= 31; i++) {
            pages.give(1);
            Due.is("STEPS", pages.about(2), Math.min(30, i));
        }
        pages.undo();
        Due.is("STEPS", pages.about(2), 29);
        pages.said(1, 1, 1);
        Due.is("SAID", pages.about(3), 1);
        for (int i = 1; i <= 15; i++) {
            pages.feed(0, 0, 0, 0, 0);
            Due.is("bytes of the tape", pages.about(4), 20 * i);
        }
        pages.end(7);
        Due.is("bytes of the tape", pages.about(4), 7);
        pages.text();
        Due.is("bytes of the tape", pages.about(4), 0);
    }

    private static void aboutTexts() {
        Used pages = new Used();
        for (int text = 0; text < 4; text++) {
            Make.say(pages, "");
            Due.is("TEXTS", pages.about(0), text + 1);
            Due.is("THE TEXT", pages.about(1), text - 1);
            pages.by(text);
            Due.is("THE TEXT", pages.about(1), text);
        }
        pages.text();
        Due.is("TEXTS", pages.about(0), 4);
        pages.by(NONE);
        Due.is("THE TEXT", pages.about(1), NONE);
    }

    private static void aboutFence() {
        Used pages = Make.withSlots(Make.slots(0), Make.slots(1, 2, 3), Make.slots(4, 5), Make.slots(6));
        Due.is("none: the FRAME", pages.about(5), NONE);
        pages.fence(0, 1);
        Due.is("the FRAME", pages.about(5), 0);
        Due.is("SLOTS", pages.about(6), 1);
        pages.lift();
        Due.is("LIFTED: the FRAME", pages.about(5), NONE);
        pages.mesh(2, 3);
        pages.fence(1, 3);
        Due.is("the FRAME", pages.about(5), 2);
        for (int left = 3; left > 0; left--) {
            Due.is("SLOTS", pages.about(6), left);
            pages.move();
        }
        Due.is("MESHED: the FRAME", pages.about(5), NONE);
        pages.undo();
        Due.is("the FRAME again", pages.about(5), 2);
        Due.is("SLOTS again", pages.about(6), 1);
        pages.undo();
        Due.is("SLOTS again", pages.about(6), 2);
    }

    private static void otherAbout() {
        Used pages = Make.with(20);
        for (int what : new int[] {Integer.MIN_VALUE, -2, -1, 7, 8, Integer.MAX_VALUE}) {
            Due.is("about(" + what + ")", pages.about(what), -2);
        }
    }
}
