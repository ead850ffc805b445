/** Promises 1 to 6 and part II: a test for each sentence that names a boundary. */
public final class TextEdgesTest {
    private static final int NONE = Used.NONE;

    public static void main(String[] args) {
        Due.sentence("1: twelve new pages", TextEdgesTest::newPages);
        Due.sentence("1: the image is this", TextEdgesTest::firstImage);
        Due.sentence("2: the highest of a first", TextEdgesTest::highestFirst);
        Due.sentence("2: bytes are 0 to 255", TextEdgesTest::bytesAbove127);
        Due.sentence("2: none come, if there would be more than 300", TextEdgesTest::tapeIsFull);
        Due.sentence("3: the first n bytes alone", TextEdgesTest::firstBytesAlone);
        Due.sentence("3: not so many, or below 0", TextEdgesTest::notSoMany);
        Due.sentence("4: its number", TextEdgesTest::numbersOfTexts);
        Due.sentence("4: the tape, empty then", TextEdgesTest::emptyThen);
        Due.sentence("4: a text of 300 bytes", TextEdgesTest::longestText);
        Due.sentence("4: the tape stays, there are 4", TextEdgesTest::fourTexts);
        Due.sentence("4: what has a FAULT leaves nothing behind", TextEdgesTest::faultyLeaveNothing);
        Due.sentence("5: ahead of any", TextEdgesTest::aheadOfAny);
        Due.sentence("5: 0 without, its place NONE without", TextEdgesTest::withoutFault);
        Due.sentence("5: of the latest text that was read", TextEdgesTest::latestRead);
        Due.sentence("5: NONE for others", TextEdgesTest::otherFaults);
        Due.sentence("6: the text", TextEdgesTest::rules);
        Due.sentence("6: NONE: none", TextEdgesTest::noneRules);
        Due.sentence("6: false for others", TextEdgesTest::othersDoNotRule);
        Due.sentence("II: blanks (32, 10) aside", TextEdgesTest::blanks);
        Due.sentence("II: letters one behind the other are one token", TextEdgesTest::words);
        Due.sentence("II: digits likewise", TextEdgesTest::digits);
        Due.sentence("II: the longest", TextEdgesTest::longestSigns);
        Due.sentence("II: fault 1, it can't stand there or is none", TextEdgesTest::cantStand);
        Due.sentence("II: of the end at the length", TextEdgesTest::endOfText);
        Due.sentence("II: fault 2, above 9999", TextEdgesTest::numbersOfSums);
        Due.sentence("II: fault 2, VALUES 0 .. 999", TextEdgesTest::valuesOfTexts);
        Due.sentence("II: fault 2, ADDRESSES 0 .. 191", TextEdgesTest::addressesOfTexts);
        Due.sentence("II: fault 2, PAGES 0 .. 11", TextEdgesTest::pagesOfTexts);
        Due.sentence("II: fault 2, DAYS 1 .. 60", TextEdgesTest::daysOfTexts);
        Due.sentence("II: fault 3, the 9th that are open", TextEdgesTest::ninthOpen);
        Due.sentence("II: fault 3, around one another", TextEdgesTest::besideOneAnother);
        Due.sentence("II: fault 4, for the second time", TextEdgesTest::secondTime);
        Due.sentence("II: fault 5, a NAME that isn't of that CLAUSE", TextEdgesTest::namesOfClauses);
        Due.sentence("II: fault 6, the 25th CLAUSE", TextEdgesTest::twentyFifth);
        Due.sentence("II: the first fault, of one token the least", TextEdgesTest::firstAndLeast);
        Due.sentence("II: / cuts towards 0, by 0 it is 0", TextEdgesTest::quotients);
        Due.sentence("II: from the left", TextEdgesTest::fromTheLeft);
        Due.sentence("II: above 1000000, below the same less, at each step", TextEdgesTest::limits);
        Due.sentence("II: live: 0 for others", TextEdgesTest::liveOnes);
        Due.sentence("II: place: 1 and the FRAME; 0: NEW, and for others", TextEdgesTest::places);
        Due.sentence("II: < <= > >= = #", TextEdgesTest::askings);
        Due.sentence("II: or, and, not", TextEdgesTest::joinedAskings);
        Due.sentence("II: of if just the SUM that is chosen", TextEdgesTest::chosen);
        Due.sentence("II: NAMES", TextEdgesTest::names);
        Due.sentence("II: meshes: above 0 it lets; without: it does", TextEdgesTest::aboveNothing);
        Due.sentence("II: probes: 0 at least, 12 at most; without: 3", TextEdgesTest::probesAtMost);
        Due.end();
    }

    private static int fed(Used pages, int at, int value) {
        int[] words = {0x20202020, 0x20202020, 0x20202020, 0x20202020, 0x20202020};
        int shift = 24 - at % 4 * 8;
        words[at / 4] = words[at / 4] & ~(255 << shift) | value << shift;
        return pages.feed(words[0], words[1], words[2], words[3], words[4]);
    }

    private static void faulty(String text, int fault, int place) {
        Used pages = new Used();
        Due.is("text of " + text, Make.say(pages, text), NONE);
        Due.is("fault of " + text, pages.fault(0), fault);
        Due.is("place of " + text, pages.fault(1), place);
        Due.is("texts behind " + text, pages.about(0), 0);
        Due.is("tape behind " + text, pages.about(4), 0);
    }

    private static void good(String text) {
        Used pages = new Used();
        Due.is("text of " + text, Make.say(pages, text), 0);
        Due.is("fault of " + text, pages.fault(0), 0);
        Due.is("place of " + text, pages.fault(1), NONE);
        Due.is("texts behind " + text, pages.about(0), 1);
    }

    /** Pages 0 {0, 1}, 1 {2} and 2 {3}, the latter two in frame 1; frame 2 is free. */
    private static Used small() {
        Used pages = Make.withSlots(Make.slots(0, 1), Make.slots(2), Make.slots(3));
        pages.mesh(1, 2);
        return pages;
    }

    private static void probesOf(Used pages, String sum, int probes) {
        Make.rule(pages, "probes " + sum + ";");
        Due.is("probes of " + sum, pages.probes(), probes);
    }

    /** Whether the sum is that: what probes can say ends at 0 and at 12. */
    private static void sum(String sum, String worth) {
        probesOf(small(), "if " + sum + "=" + worth + " then 7 else 5 end", 7);
    }

    private static void asked(String asking, boolean so) {
        probesOf(small(), "if " + asking + " then 7 else 5 end", so ? 7 : 5);
    }

    private static void newPages() {
        Used pages = new Used();
        for (int page = 0; page < 12; page++) {
            Due.is("page(" + page + ", 0)", pages.page(page, 0), NONE);
            Due.is("page(" + page + ", 1)", pages.page(page, 1), 0);
            Due.is("page(" + page + ", 2)", pages.page(page, 2), 0);
            Due.is("page(" + page + ", 3)", pages.page(page, 3), 0);
            Due.is("page(" + page + ", 4)", pages.page(page, 4), NONE);
            Due.is("vector(" + page + ", 0)", pages.vector(page, 0), NONE);
            Due.is("frame(" + page + ", 0)", pages.frame(page, 0), 0);
            Due.is("frame(" + page + ", 1)", pages.frame(page, 1), 0);
        }
        int[] is = {0, 503, 0, 0, 0, 0};
        for (int what = 0; what < is.length; what++) {
            Due.is("is(" + what + ")", pages.is(what), is[what]);
        }
        int[] about = {0, NONE, 0, 0, 0, NONE, 0};
        for (int what = 0; what < about.length; what++) {
            Due.is("about(" + what + ")", pages.about(what), about[what]);
        }
        Due.is("book(NONE, 0)", pages.book(NONE, 0), 0);
        Due.is("probes()", pages.probes(), 3);
        Due.is("sound()", pages.sound(), true);
        Due.is("the thirteenth page", pages.page(12, 0), -2);
    }

    private static void firstImage() {
        Same.butTheTape(pages -> {
            Make.rule(pages, "probes 7; meshes 0;");
            pages.said(3, 3, 1);
            Make.giveTimes(pages, 20);
            pages.day(30);
            pages.years(7, 5);
            Due.is("back()", pages.back(), 0);
        }, pages -> { });
        Same.butTheTape(pages -> {
            Make.giveTimes(pages, 32);
            Make.freeOthers(pages, Make.slots(0, 1), Make.slots(2));
            pages.fence(0, 1);
            pages.back();
        }, pages -> { });
    }

    private static void highestFirst() {
        for (int at = 0; at < 20; at++) {
            Used pages = new Used();
            Due.is("feed", fed(pages, at, '!'), 20);
            Due.is("text()", pages.text(), NONE);
            Due.is("the place of byte " + at, pages.fault(1), at);
        }
        Used pages = new Used();
        fed(pages, 0, ' ');
        Due.is("twenty more", fed(pages, 3, '!'), 40);
        pages.text();
        Due.is("behind the tape", pages.fault(1), 23);
    }

    private static void bytesAbove127() {
        for (int value : new int[] {0, 1, 127, 128, 128 + 10, 128 + 32, 128 + 'a', 255}) {
            for (int at : new int[] {0, 7, 10, 17}) {
                Used pages = new Used();
                fed(pages, at, value);
                Due.is("text() with " + value, pages.text(), NONE);
                Due.is("fault(0) of " + value, pages.fault(0), 1);
                Due.is("fault(1) of " + value, pages.fault(1), at);
            }
        }
    }

    private static void tapeIsFull() {
        Used pages = new Used();
        Make.feedBehind(pages, "give 1;" + " ".repeat(253));
        for (int times = 14; times <= 15; times++) {
            Due.is("feed " + times, fed(pages, 0, times == 15 ? 'g' : ' '), 20 * times);
        }
        Due.is("feed beyond 300", fed(pages, 0, '!'), NONE);
        Due.is("about(4)", pages.about(4), 300);
        pages.text();
        Due.is("the 300 as they were", pages.fault(1), 280);
        Make.feedBehind(pages, " ".repeat(300));
        Due.is("end(281)", pages.end(281), 281);
        Due.is("feed to 301", fed(pages, 0, '!'), NONE);
        Due.is("about(4)", pages.about(4), 281);
        Due.is("end(280)", pages.end(280), 280);
        Due.is("feed to 300", fed(pages, 19, '!'), 300);
        pages.text();
        Due.is("the last byte", pages.fault(1), 299);
    }

    private static void firstBytesAlone() {
        Used pages = new Used();
        Make.feedBehind(pages, "give 1;give 2;give");
        Due.is("end(14)", pages.end(14), 14);
        Due.is("about(4)", pages.about(4), 14);
        Due.is("text()", pages.text(), 0);
        Due.is("played(0)", pages.played(0), NONE);
        Due.is("two clauses", pages.is(3), 2);
        Make.feedBehind(pages, "give 1;!");
        Due.is("end(7)", pages.end(7), 7);
        Make.feedBehind(pages, "give 2;             ");
        Due.is("what is fed comes behind the seventh", pages.about(4), 27);
        Due.is("text()", pages.text(), 1);
        Make.feedBehind(pages, "!");
        Due.is("end(20), all it has", pages.end(20), 20);
        Due.is("end(0)", pages.end(0), 0);
        Due.is("end(0) again", pages.end(0), 0);
        Due.is("text() of none", pages.text(), 2);
    }

    private static void notSoMany() {
        Used pages = new Used();
        Due.is("end(1) of none", pages.end(1), NONE);
        Due.is("end(0) of none", pages.end(0), 0);
        Make.feedBehind(pages, "give 1;             ");
        Due.is("end(21)", pages.end(21), NONE);
        Due.is("end(-1)", pages.end(-1), NONE);
        Due.is("nothing is done", pages.about(4), 20);
        Due.is("end(19)", pages.end(19), 19);
        Due.is("end(20), which it has no more", pages.end(20), NONE);
        Due.is("text()", pages.text(), 0);
        Due.is("end(1) of the empty one", pages.end(1), NONE);
    }

    private static void numbersOfTexts() {
        Used pages = new Used();
        for (int number = 0; number < 4; number++) {
            Due.is("a text", Make.say(pages, "probes " + (number + 1) + ";"), number);
            Due.is("one with a fault has no number", Make.say(pages, "probes"), NONE);
            Due.is("about(0)", pages.about(0), number + 1);
        }
        for (int number = 0; number < 4; number++) {
            pages.by(number);
            Due.is("each stays as it is", pages.probes(), number + 1);
        }
    }

    private static void emptyThen() {
        Used pages = new Used();
        Make.feed(pages, "give 1;");
        Due.is("text()", pages.text(), 0);
        Due.is("the tape behind a text", pages.about(4), 0);
        Due.is("of it there is no text again", pages.text(), 1);
        pages.played(1);
        Due.is("but one without clauses", pages.is(3), 0);
        Make.feed(pages, "give");
        Due.is("text()", pages.text(), NONE);
        Due.is("the tape behind one with a fault", pages.about(4), 0);
    }

    private static void longestText() {
        good("give 1;" + " ".repeat(293));
        good(" ".repeat(300));
        good("probes 1" + "+1".repeat(145) + ";\n");
        good("probes " + "0".repeat(292) + ";");
        Used pages = new Used();
        Due.is("text()", Make.say(pages, "probes 1" + "-1+1".repeat(72) + "+2; "), 0);
        pages.by(0);
        Due.is("probes()", pages.probes(), 3);
        Make.rule(pages, "give 1;day 1;" + " ".repeat(275) + "probes 4;   ");
        Due.is("to its end", pages.probes(), 4);
    }

    private static void faultyLeaveNothing() {
        Used pages = new Used();
        for (int i = 0; i < 10; i++) {
            Due.is("a long one with a FAULT", Make.say(pages, "probes 1" + "+1".repeat(146)), NONE);
        }
        Due.is("a long one", Make.say(pages, "probes 1" + "-1+1".repeat(72) + "+5; "), 0);
        pages.by(0);
        Due.is("probes()", pages.probes(), 6);
        Due.is("laws and clauses with a FAULT", Make.say(pages, "meshes 0;probes 2;give 1;give 2;give"), NONE);
        Due.is("one without", Make.say(pages, "give 5;"), 1);
        pages.by(1);
        Due.is("probes()", pages.probes(), 3);
        Due.is("played(1)", pages.played(1), NONE);
        Due.is("is(3)", pages.is(3), 1);
        Due.is("meshes(0, 0)", pages.meshes(0, 0), true);
        pages = new Used();
        Due.is("one that is longer than the next", Make.say(pages, "probes ---------5;"), NONE);
        Due.is("another one", Make.say(pages, "probes 1*(-5-5"), NONE);
        Make.rule(pages, "probes 5;");
        Due.is("probes()", pages.probes(), 5);
        Due.is("another one", Make.say(pages, "meshes --1 5;"), NONE);
        Make.rule(pages, "meshes -1;");
        pages.give(1);
        Due.is("meshes(0, 0)", pages.meshes(0, 0), false);
        for (int i = 0; i < 3; i++) {
            Make.say(pages, "compact;".repeat(25));
        }
        Due.is("24 clauses", Make.say(pages, "compact;".repeat(24)), 2);
        Due.is("played(2)", pages.played(2), NONE);
    }

    private static void fourTexts() {
        Used pages = new Used();
        for (int i = 0; i < 3; i++) {
            Make.say(pages, "probes 5;");
        }
        Make.say(pages, "probes");
        Make.feed(pages, "probes 5;");
        Due.is("the fourth", pages.text(), 3);
        Make.feed(pages, "probes 11; !");
        Due.is("the fifth", pages.text(), NONE);
        Due.is("about(0)", pages.about(0), 4);
        Due.is("the tape stays", pages.about(4), 12);
        Due.is("it is not read: fault(0)", pages.fault(0), 0);
        Due.is("it is not read: fault(1)", pages.fault(1), NONE);
        Due.is("back()", pages.back(), 0);
        Due.is("end(10)", pages.end(10), 10);
        Due.is("the tape is as it was", pages.text(), 0);
        pages.by(0);
        Due.is("probes()", pages.probes(), 11);
    }

    private static void aheadOfAny() {
        Used pages = new Used();
        Make.feed(pages, "give");
        Due.is("fault(0)", pages.fault(0), NONE);
        Due.is("fault(1)", pages.fault(1), NONE);
        pages.back();
        pages.image();
        Due.is("fault(0) yet", pages.fault(0), NONE);
        pages.text();
        Due.is("fault(0) then", pages.fault(0), 1);
        Due.is("fault(1) then", pages.fault(1), 4);
    }

    private static void withoutFault() {
        Used pages = new Used();
        Due.is("the empty text", pages.text(), 0);
        Due.is("fault(0)", pages.fault(0), 0);
        Due.is("fault(1)", pages.fault(1), NONE);
    }

    private static void latestRead() {
        Used pages = new Used();
        Make.say(pages, "day 0;");
        Due.is("fault(0)", pages.fault(0), 2);
        Due.is("fault(1)", pages.fault(1), 4);
        Make.say(pages, "  day");
        Due.is("fault(0)", pages.fault(0), 1);
        Due.is("fault(1)", pages.fault(1), 5);
        Make.feed(pages, "day 1;");
        Due.is("not yet read", pages.fault(1), 5);
        pages.text();
        Due.is("fault(0)", pages.fault(0), 0);
        Due.is("fault(1)", pages.fault(1), NONE);
        Make.say(pages, "! give");
        Due.is("the place of the first token", pages.fault(1), 0);
    }

    private static void otherFaults() {
        Used pages = new Used();
        Make.say(pages, "day 0;");
        for (int what : new int[] {-2, -1, 2, 3, Integer.MIN_VALUE, Integer.MAX_VALUE}) {
            Due.is("fault(" + what + ")", pages.fault(what), NONE);
        }
    }

    private static void rules() {
        Used pages = new Used();
        Make.say(pages, "probes 1;");
        Due.is("at first none", pages.about(1), NONE);
        Due.is("none rules yet", pages.probes(), 3);
        Make.say(pages, "probes 2;");
        for (int text : new int[] {0, 1, 1, 0}) {
            Due.is("by(" + text + ")", pages.by(text), true);
            Due.is("about(1)", pages.about(1), text);
            Due.is("probes()", pages.probes(), text + 1);
        }
    }

    private static void noneRules() {
        Used pages = new Used();
        Due.is("by(NONE)", pages.by(NONE), true);
        Make.rule(pages, "probes 1;");
        Due.is("by(NONE)", pages.by(NONE), true);
        Due.is("about(1)", pages.about(1), NONE);
        Due.is("probes()", pages.probes(), 3);
    }

    private static void othersDoNotRule() {
        Used pages = new Used();
        Due.is("by(0) of none", pages.by(0), false);
        Make.rule(pages, "probes 1;");
        for (int text : new int[] {1, 2, 3, 4, -2, Integer.MIN_VALUE, Integer.MAX_VALUE}) {
            Due.is("by(" + text + ")", pages.by(text), false);
            Due.is("about(1) as it was", pages.about(1), 0);
            Due.is("probes() as it was", pages.probes(), 1);
        }
        Make.say(pages, "probes");
        Due.is("by(1), which has a fault", pages.by(1), false);
    }

    private static void blanks() {
        good(" \n give\n \n1 \n;\n");
        for (int sign : new int[] {0, 9, 11, 12, 13, 31, 33, 138, 160}) {
            faulty("give" + (char) sign + "1;", 1, 4);
        }
        faulty("gi ve 1;", 1, 0);
        faulty("give 1 2;", 1, 7);
        faulty("give\n1\n2;", 1, 7);
    }

    private static void words() {
        good("compact;");
        good("give1;");
        faulty("compactcompact;", 1, 0);
        faulty("Compact;", 1, 0);
        faulty("compacT;", 1, 0);
        for (char sign : new char[] {'a', 'z', 'A', 'Z'}) {
            faulty("compact" + sign + ";", 1, 0);
            faulty("compact;" + sign + ";", 1, 8);
            faulty("" + sign + ";", 1, 0);
        }
        for (char sign : new char[] {'@', '[', '`', '{', '_', '!', '"', '$', '%', '&', '\'', ',', '.', '?', '\\', '^', '|', '}', '~', ':'}) {
            faulty("compact" + sign + ";", 1, 7);
        }
        faulty("probes timespages;", 1, 7);
    }

    private static void digits() {
        good("give 0;give 9;give 09;give 900;");
        good("give 00000999;");
        faulty("give 1/;", 1, 6);
        faulty("give 1:;", 1, 6);
        faulty("give /1;", 1, 5);
        faulty("give :1;", 1, 5);
        faulty("probes 99 99;", 1, 10);
    }

    private static void longestSigns() {
        asked("1<=1", true);
        asked("1>=1", true);
        asked("1<-1", false);
        asked("1>-1", true);
        faulty("probes if 1< =1 then 1 else 1 end;", 1, 13);
        faulty("probes if 1> =1 then 1 else 1 end;", 1, 13);
        faulty("probes if 1=<1 then 1 else 1 end;", 1, 12);
        faulty("probes if 1=>1 then 1 else 1 end;", 1, 12);
        faulty("probes if 1==1 then 1 else 1 end;", 1, 12);
        faulty("probes if 1<>1 then 1 else 1 end;", 1, 12);
        faulty("probes if 1<==1 then 1 else 1 end;", 1, 13);
        faulty("probes if 1<", 1, 12);
        faulty("probes if 1<=", 1, 13);
        faulty("probes <=1;", 1, 7);
    }

    private static void cantStand() {
        for (String first : new String[] {";", "1", "at", "with", "live", "place", "if", "then", "else", "end", "or", "and", "not", "time",
                "pages", "frames", "one", "other", "sparse", "<", "<=", ">", ">=", "=", "#", "+", "-", "*", "/", "(", ")", "x", "!"}) {
            faulty("compact;" + first + " 1;", 1, 8);
        }
        for (String kind : new String[] {"meshes", "probes", "give", "free", "write", "mesh", "day"}) {
            faulty(kind + " ;", 1, kind.length() + 1);
            faulty(kind + " compact;", 1, kind.length() + 1);
            faulty(kind + " 1 1;", 1, kind.length() + 3);
        }
        faulty("compact 1;", 1, 8);
        faulty("write 1 with 1;", 1, 8);
        faulty("write 1;", 1, 7);
        faulty("write 1 at;", 1, 10);
        faulty("write at 1;", 1, 6);
        faulty("mesh 1 at 1;", 1, 7);
        faulty("mesh 1;", 1, 6);
        faulty("mesh 1 with;", 1, 11);
        faulty("free -1;", 1, 5);
        faulty("free (1);", 1, 5);
        faulty("day time;", 1, 4);
        for (String second : new String[] {")", "1", "time", "live", "if", "then", "else", "end", "or", "and", "not", "at", "<", "=", "#"}) {
            faulty("probes 1 " + second + ";", 1, 9);
        }
        for (String one : new String[] {";", ")", "then", "else", "end", "or", "and", "not", "at", "+", "*", "/", "<", "="}) {
            faulty("probes 1*" + one + ";", 1, 9);
            faulty("probes live " + one + ";", 1, 12);
            faulty("probes (" + one + ";", 1, 8);
            faulty("probes - " + one + ";", 1, 9);
        }
        faulty("probes (1;", 1, 9);
        faulty("probes ();", 1, 8);
        faulty("probes if 1 then 1 else 1 end;", 1, 12);
        faulty("probes if not 1 then 1 else 1 end;", 1, 16);
        faulty("probes if (1<1) then 1 else 1 end;", 1, 12);
        faulty("probes if 1<1<1 then 1 else 1 end;", 1, 13);
        faulty("probes if 1<1 or then 1 else 1 end;", 1, 17);
        faulty("probes if 1<1 and then 1 else 1 end;", 1, 18);
        faulty("probes if 1<1 and or 1<1 then 1 else 1 end;", 1, 18);
        faulty("probes if 1<1 then end;", 1, 19);
        faulty("probes if 1<1 then 1 end;", 1, 21);
        faulty("probes if 1<1 then 1 else end;", 1, 26);
        faulty("probes if 1<1 then 1 else 1;", 1, 27);
        faulty("probes if 1<1 else 1 then 1 end;", 1, 14);
        faulty("probes if 1<1 then 1 else 1 end end;", 1, 32);
        faulty("probes not 1<1;", 1, 7);
        faulty("probes 1<1;", 1, 8);
    }

    private static void endOfText() {
        faulty("compact", 1, 7);
        faulty("compact \n ", 1, 10);
        faulty("give", 1, 4);
        faulty("give 1", 1, 6);
        faulty("write 1 at", 1, 10);
        faulty("mesh 1 with 2", 1, 13);
        faulty("probes", 1, 6);
        faulty("probes (", 1, 8);
        faulty("probes if", 1, 9);
        faulty("probes if 1", 1, 11);
        faulty("probes if 1<1 then 1 else 1", 1, 27);
        faulty("probes 1" + "+1".repeat(146), 1, 300);
        good("compact;");
    }

    private static void numbersOfSums() {
        good("probes 0;");
        good("probes 9999;");
        good("meshes 9999;");
        good("probes 0000000000000000000009999;");
        faulty("probes 10000;", 2, 7);
        faulty("meshes 1+10000;", 2, 9);
        faulty("probes live 10000;", 2, 12);
        faulty("probes 4294967296;", 2, 7);
        faulty("probes 18446744073709551617;", 2, 7);
        faulty("probes " + "9".repeat(290) + ";", 2, 7);
        good("probes live 12+place 9999;");
    }

    private static void valuesOfTexts() {
        good("give 0;give 999;write 0 at 0;write 999 at 0;");
        faulty("give 1000;", 2, 5);
        faulty("give 9999;", 2, 5);
        faulty("give 10000;", 2, 5);
        faulty("give 4294967296;", 2, 5);
        faulty("write 1000 at 0;", 2, 6);
    }

    private static void addressesOfTexts() {
        good("free 0;free 191;write 0 at 0;write 0 at 191;");
        faulty("free 192;", 2, 5);
        faulty("free 999;", 2, 5);
        faulty("write 0 at 192;", 2, 11);
        faulty("write 999 at 999;", 2, 13);
    }

    private static void pagesOfTexts() {
        good("mesh 0 with 0;mesh 11 with 11;mesh 0 with 11;");
        faulty("mesh 12 with 0;", 2, 5);
        faulty("mesh 0 with 12;", 2, 12);
        faulty("mesh 12 with 12;", 2, 5);
    }

    private static void daysOfTexts() {
        good("day 1;day 60;");
        faulty("day 0;", 2, 4);
        faulty("day 61;", 2, 4);
        faulty("day 00;", 2, 4);
    }

    private static void ninthOpen() {
        String[] ones = {"(", "live ", "place ", "-", "if "};
        for (String ninth : ones) {
            for (String eight : new String[] {"(", "live ", "place ", "-"}) {
                faulty("probes " + eight.repeat(8) + ninth + "1;", 3, 7 + 8 * eight.length());
            }
        }
        good("probes ((((((((1))))))));");
        good("probes live live live live live live live live 1;");
        good("probes place place place place place place place place 1;");
        good("probes --------1;");
        good("probes (((((((if 1<1 then 1 else 1 end)))))));");
        good("probes if not not not not not not not 1<1 then 1 else 1 end;");
        faulty("probes if not not not not not not not not 1<1 then 1 else 1 end;", 3, 38);
        faulty("probes ((((((((if 1<1 then 1 else 1 end))))))));", 3, 15);
        String nested = "if 1<1 then ";
        good("probes " + nested.repeat(8) + "1" + " else 1 end".repeat(8) + ";");
        faulty("probes " + nested.repeat(9) + "1" + " else 1 end".repeat(9) + ";", 3, 7 + 8 * nested.length());
        String elses = "if 1<1 then 1 else ";
        good("probes " + elses.repeat(8) + "1" + " end".repeat(8) + ";");
        faulty("probes " + elses.repeat(9) + "1" + " end".repeat(9) + ";", 3, 7 + 8 * elses.length());
        String asks = "if ";
        good("probes " + asks.repeat(8) + "1<1" + " then 1 else 1 end<1".repeat(7) + " then 1 else 1 end;");
        faulty("probes " + asks.repeat(9) + "1<1", 3, 7 + 8 * asks.length());
        faulty("meshes ((((((((-one))))))));", 3, 15);
        faulty("meshes (((((((not", 1, 14);
    }

    private static void besideOneAnother() {
        good("probes ((((((((1))))))))+((((((((1))))))))*((((((((1))))))));");
        faulty("probes ((((((((1))))))))+(((((((((1)))))))));", 3, 33);
        good("probes --------1 - --------1;");
        good("probes 1-1-1-1-1-1-1-1-1-1-1-1;");
        good("probes live live live live live live live live 1*live live live live live live live live 1;");
        good("probes if not not not not not not not 1<1 and not not not not not not not 1<1 or not not not not not not not 1<1 then 1 else 1 end;");
        good("probes if (((((((1)))))))<(((((((1))))))) then (((((((1))))))) else (((((((1))))))) end+((((((((1))))))));");
        faulty("probes if (((((((1)))))))<((((((((1)))))))) then 1 else 1 end;", 3, 33);
        good("probes -1-(-1-(-1-(-1-1)));");
        good("meshes ((((((((1))))))));probes ((((((((1))))))));");
        good("probes if not 1<((((((1)))))) then 1 else 1 end;");
        faulty("probes if not 1<(((((((1))))))) then 1 else 1 end;", 3, 22);
        good("probes -((((((1)))))) * (((((((-1)))))));");
    }

    private static void secondTime() {
        good("meshes 1;probes 1;");
        good("probes 1;meshes 1;");
        faulty("meshes 1;meshes 1;", 4, 9);
        faulty("probes 1;probes 1;", 4, 9);
        faulty("probes 1;give 1;meshes 1;day 1;probes 1;", 4, 31);
        faulty("meshes 1;probes 1; meshes", 4, 19);
        faulty("meshes 0;meshes !", 4, 9);
        Used pages = new Used();
        Make.say(pages, "meshes 1;");
        Due.is("in another text it is the first", Make.say(pages, "meshes 1;"), 1);
        Make.say(pages, "probes 1;!");
        Due.is("behind a text with a fault, too", Make.say(pages, "probes 1;"), 2);
    }

    private static void namesOfClauses() {
        for (String name : new String[] {"time", "pages", "frames"}) {
            good("meshes " + name + ";");
            good("probes " + name + ";");
        }
        good("meshes one;");
        good("meshes other;");
        good("probes sparse;");
        faulty("meshes sparse;", 5, 7);
        faulty("probes one;", 5, 7);
        faulty("probes other;", 5, 7);
        faulty("meshes one+other*live sparse;", 5, 22);
        faulty("probes if sparse<1 then sparse else -(other) end;", 5, 38);
        faulty("meshes 1 sparse;", 1, 9);
        faulty("probes 1 one;", 1, 9);
        faulty("give one;", 1, 5);
        faulty("probes 1;meshes sparse;", 5, 16);
        faulty("meshes 1;probes one;", 5, 16);
    }

    private static void twentyFifth() {
        String clause = "compact;";
        good(clause.repeat(24));
        good(clause.repeat(24) + " \n");
        good(clause.repeat(22) + "meshes 1;probes 1;");
        faulty(clause.repeat(25), 6, 192);
        faulty(clause.repeat(24) + "  compact", 6, 194);
        for (String kind : new String[] {"meshes 1;", "probes 1;", "give 1;", "free 1;", "write 1 at 1;", "mesh 1 with 2;", "day 1;", "give 1000;", "probes one;"}) {
            faulty(clause.repeat(24) + kind, 6, 192);
        }
        faulty("meshes 1;" + clause.repeat(23) + clause, 6, 193);
        Used pages = new Used();
        Make.say(pages, "give 5;".repeat(24));
        Due.is("all of 24 are played", pages.played(0), NONE);
        Due.is("is(3)", pages.is(3), 24);
    }

    private static void firstAndLeast() {
        String clause = "compact;";
        faulty(clause.repeat(24) + ";", 1, 192);
        faulty(clause.repeat(24) + "then", 1, 192);
        faulty("probes 1;" + clause.repeat(23) + "probes 1;", 4, 193);
        faulty("compact 10000;", 1, 8);
        faulty("probes 1 10000;", 1, 9);
        faulty("probes ((((((((10000", 2, 15);
        faulty("probes ((((((((one", 5, 15);
        faulty("probes ((((((((then", 1, 15);
        faulty("give 1000; give", 2, 5);
        faulty("probes one; !", 5, 7);
        faulty("give ! 1000;", 1, 5);
        faulty("mesh 12 at 12;", 2, 5);
        faulty("write 5 5000;", 1, 8);
    }

    private static void quotients() {
        sum("7/2", "3");
        sum("-7/2", "-3");
        sum("7/-2", "-3");
        sum("-7/-2", "3");
        sum("1/2", "0");
        sum("-1/2", "0");
        sum("7/0", "0");
        sum("-7/0", "0");
        sum("0/0", "0");
        sum("7/(1-1)+2", "2");
        sum("7/live 11", "0");
    }

    private static void fromTheLeft() {
        sum("10-3-2", "5");
        sum("100/10/5", "2");
        sum("7/2*2", "6");
        sum("2*7/4", "3");
        sum("1+2*3-4/2", "5");
        sum("(1+2)*(3-4)/2", "-1");
        sum("-2*-3", "6");
        sum("- 2+5", "3");
        sum("live 0*3", "6");
        sum("live(0)+1", "3");
        sum("-live 0-1", "-3");
    }

    private static void limits() {
        sum("1000*1000/1000", "1000");
        sum("(1000*1000-1)/100", "9999");
        sum("9999*101/1000", "1000");
        sum("9999*100/1000", "999");
        sum("1000*1000+1-1000*1000", "0");
        sum("1000*1000-1+1-1000*1000", "0");
        sum("-1000*1000-1+1000*1000", "0");
        sum("-1000*1000+1+1000*1000", "1");
        sum("9999*9999*9999/9999", "100");
        sum("-9999*9999*9999/9999", "-100");
        sum("9999*9999*-9999/9999", "-100");
        sum("1000*1000+9999-9999", "1000*1000-9999");
        sum("0-1000*1000-9999+9999", "9999-1000*1000");
        sum("-(9999*9999)+9999*9999", "0");
        sum("9999*9999--(9999*9999)", "1000*1000");
        sum("-(9999*9999)-9999*9999", "-1000*1000");
        asked("9999*9999>1000*1000", false);
        asked("-9999*9999<-1000*1000", false);
    }

    private static void liveOnes() {
        sum("live 0", "2");
        sum("live 1", "1");
        sum("live 2", "1");
        sum("live 3", "0");
        sum("live 11", "0");
        sum("live 12", "0");
        sum("live 9999", "0");
        sum("live -1", "0");
        sum("live(0-1)", "0");
        sum("live(-9999*9999)", "0");
        sum("live live 0", "1");
        probesOf(Make.with(192), "live 11-live 12-live-1-10", 6);
    }

    private static void places() {
        sum("place 0", "1");
        sum("place 1", "2");
        sum("place 2", "2");
        sum("place 3", "0");
        sum("place 11", "0");
        sum("place 12", "0");
        sum("place -1", "0");
        sum("place 9999", "0");
        probesOf(Make.with(192), "place 11+place 12+place-1", 12);
        Used pages = Make.withSlots(Make.slots(0, 1), Make.slots(2), Make.slots(3));
        pages.fence(1, 2);
        probesOf(pages, "place 2", 3);
    }

    private static void askings() {
        String[] signs = {"<", "<=", ">", ">=", "=", "#"};
        boolean[] less = {true, true, false, false, false, true};
        boolean[] like = {false, true, false, true, true, false};
        boolean[] more = {false, false, true, true, false, true};
        for (int i = 0; i < signs.length; i++) {
            asked("2" + signs[i] + "3", less[i]);
            asked("3" + signs[i] + "3", like[i]);
            asked("4" + signs[i] + "3", more[i]);
            asked("-4" + signs[i] + "3", less[i]);
            asked("2*3" + signs[i] + "5+1", like[i]);
            for (int j = 0; j < signs.length; j++) {
                asked("2" + signs[i] + "3 and 4" + signs[j] + "3", less[i] && more[j]);
                asked("4" + signs[i] + "3 and 3" + signs[j] + "3", more[i] && like[j]);
                asked("3" + signs[i] + "3 or 2" + signs[j] + "3", like[i] || less[j]);
                asked("not 2" + signs[i] + "3 and not 4" + signs[j] + "3", !less[i] && !more[j]);
            }
        }
    }

    private static void joinedAskings() {
        for (int i = 0; i < 8; i++) {
            boolean a = (i & 1) != 0;
            boolean b = (i & 2) != 0;
            boolean c = (i & 4) != 0;
            String p = a ? "1=1" : "1=2";
            String q = b ? "2=2" : "2=3";
            String r = c ? "3=3" : "3=4";
            asked(p + " or " + q + " and " + r, a || b && c);
            asked(p + " and " + q + " or " + r, a && b || c);
            asked("not " + p + " and " + q + " or " + r, !a && b || c);
            asked("not " + p + " or " + q + " and not " + r, !a || b && !c);
            asked("not not " + p + " or not " + q, a || !b);
            asked(p + " or " + q + " or " + r, a || b || c);
            asked(p + " and " + q + " and " + r, a && b && c);
            probesOf(small(), "if " + p + " then if " + q + " then 1 else 2 end else if " + r + " then 3 else 4 end end",
                a ? b ? 1 : 2 : c ? 3 : 4);
        }
    }

    private static void chosen() {
        sum("if 1=1 then 3 else 4 end*2+1", "7");
        sum("if 1=2 then 3 else 4 end*2+1", "9");
        sum("1+if 1=1 then 3 else 4 end*2", "7");
        sum("1+if 1=2 then 3 else 4 end*2", "9");
        sum("if 1=1 then 3 else 4 end-if 1=2 then 3 else 4 end", "-1");
        sum("if if 1=1 then 3 else 4 end=3 then if 1=2 then 5 else 6 end else if 1=1 then 7 else 8 end end+1", "7");
        sum("if if 1=2 then 3 else 4 end=3 then if 1=2 then 5 else 6 end else if 1=1 then 7 else 8 end end+1", "8");
        sum("-if 1=1 then 3 else 4 end", "-3");
        sum("live if 1=1 then 0 else 1 end", "2");
        sum("if 1=1 then 3+4 else 4*5 end", "7");
        sum("if 1=2 then 3+4 else 4*5 end", "20");
        for (String both : new String[] {"meshes 0;probes 7;", "probes 7;meshes 0;", "probes 7;give 1;meshes if 1=1 then 0 else 1 end;"}) {
            Used pages = small();
            Make.rule(pages, both);
            Due.is("each law its own: " + both, pages.probes(), 7);
            Due.is("each law its own: " + both, pages.meshes(0, 1), false);
        }
    }

    private static void names() {
        Used pages = small();
        pages.day(5);
        probesOf(pages, "time", 5);
        probesOf(pages, "pages", Integer.bitCount(pages.is(5)));
        probesOf(pages, "frames", pages.is(2));
        probesOf(pages, "sparse", Integer.bitCount(pages.sparse()));
        sum("time", "0");
        sum("pages", "3");
        sum("frames", "2");
        sum("sparse", "2");
        pages = Make.withSlots(Make.fromTo(0, 9), Make.slots(9), Make.slots(10), Make.slots(11));
        probesOf(pages, "sparse", 3);
        pages.fence(1, 2);
        Due.is("those of the fence are not", pages.probes(), 1);
        probesOf(pages, "frames*2+pages", 12);
        probesOf(new Used(), "time+pages+frames+sparse", 0);
        pages = small();
        Make.rule(pages, "meshes if one=2 then if other=2 then 1 else 0 end else 0 end;");
        Due.is("how many in each FRAME", pages.meshes(0, 1), true);
        Make.rule(pages, "meshes time+pages-3+frames-2;");
        Due.is("time, pages and frames", pages.meshes(0, 1), false);
        pages.day(1);
        Due.is("as they are then", pages.meshes(0, 1), true);
    }

    private static void aboveNothing() {
        String[] worths = {"1", "0", "-1", "1000*1000", "-1000*1000", "1/2"};
        boolean[] lets = {true, false, false, true, false, false};
        for (int i = 0; i < worths.length; i++) {
            Used pages = Make.withSlots(Make.slots(0, 1), Make.slots(2));
            Make.rule(pages, "meshes " + worths[i] + ";");
            Due.is("meshes " + worths[i], pages.meshes(0, 1), lets[i]);
            Due.is("can(0, 1) by " + worths[i], pages.can(0, 1), lets[i] ? 0 : 5);
            Due.is("mesh(0, 1) by " + worths[i], pages.mesh(0, 1), lets[i] ? 1 : NONE);
        }
        Used pages = Make.withSlots(Make.slots(0, 1), Make.slots(2));
        Due.is("no text rules", pages.meshes(0, 1), true);
        Make.say(pages, "meshes 0;");
        Due.is("it is not told", pages.meshes(0, 1), true);
        Make.rule(pages, "probes 0;");
        Due.is("a text without meshes", pages.meshes(0, 1), true);
        Make.rule(pages, "");
        Due.is("the empty text", pages.meshes(0, 1), true);
    }

    private static void probesAtMost() {
        String[] worths = {"0", "1", "11", "12", "13", "9999*9999", "-1", "-9999*9999", "-0"};
        int[] probes = {0, 1, 11, 12, 12, 12, 0, 0, 0};
        for (int i = 0; i < worths.length; i++) {
            probesOf(new Used(), worths[i], probes[i]);
        }
        Used pages = new Used();
        Due.is("no text rules", pages.probes(), 3);
        Make.say(pages, "probes 0;");
        Due.is("it is not told", pages.probes(), 3);
        Make.rule(pages, "meshes 0;");
        Due.is("a text without probes", pages.probes(), 3);
        Make.rule(pages, "");
        Due.is("the empty text", pages.probes(), 3);
    }
}
