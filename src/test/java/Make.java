/** What many tests make: texts on the tape, and pages of which just some slots are live. */
final class Make {
    static final int NONE = Used.NONE;
    /** Far from all that any call takes. */
    static final int[] FAR = {Integer.MIN_VALUE, -1000000, 1000000, Integer.MAX_VALUE};

    private Make() {
    }

    static int nextX(int x) {
        return (x * 769 + 631) % 31123;
    }

    static void feed(Used pages, String text) {
        pages.end(0);
        feedBehind(pages, text);
        Due.is("the tape has " + text, pages.end(text.length()), text.length());
    }

    /** The text comes behind the tape, and zeros behind it up to the next twenty bytes. */
    static void feedBehind(Used pages, String text) {
        for (int i = 0; i < text.length(); i += 20) {
            int[] words = new int[5];
            for (int j = 0; j < 20 && i + j < text.length(); j++) {
                words[j / 4] |= (text.charAt(i + j) & 255) << 24 - j % 4 * 8;
            }
            pages.feed(words[0], words[1], words[2], words[3], words[4]);
        }
    }

    static int say(Used pages, String text) {
        feed(pages, text);
        return pages.text();
    }

    /** Says the text as the next one and lets it rule. */
    static void rule(Used pages, String text) {
        int number = say(pages, text);
        Due.holds("it is a text: " + text, number != NONE);
        pages.by(number);
    }

    static Used with(int gives) {
        Used pages = new Used();
        giveTimes(pages, gives);
        return pages;
    }

    /** Values 0, 1, .. one behind the other. */
    static void giveTimes(Used pages, int gives) {
        for (int i = 0; i < gives; i++) {
            pages.give(i);
        }
    }

    static int[] slots(int... slots) {
        return slots;
    }

    static int bits(int... slots) {
        int bits = 0;
        for (int slot : slots) {
            bits |= 1 << slot;
        }
        return bits;
    }

    /** Slots one behind the other, the last one not among them. */
    static int[] fromTo(int from, int to) {
        int[] slots = new int[to - from];
        for (int i = 0; i < slots.length; i++) {
            slots[i] = from + i;
        }
        return slots;
    }

    /** A page for each array, in a frame of its own, of which just these slots are live. */
    static Used withSlots(int[]... slots) {
        Used pages = with(16 * slots.length);
        freeOthers(pages, slots);
        return pages;
    }

    static void freeOthers(Used pages, int[]... slots) {
        for (int page = 0; page < slots.length; page++) {
            int stay = bits(slots[page]);
            for (int slot = 0; slot < 16; slot++) {
                if ((stay >> slot & 1) == 0) {
                    pages.free(page * 16 + slot);
                }
            }
        }
    }

    static void closePage(Used pages, int page) {
        for (int slot = 0; slot < 16; slot++) {
            pages.free(page * 16 + slot);
        }
    }

    /** The days that the object must be behind; at most 30 calls for all. */
    static void passTo(Used pages, int day) {
        if (day >= 1440) {
            int text = say(pages, "day 60;".repeat(24));
            while (pages.is(0) + 1440 <= day) {
                Due.is("1440 days", pages.played(text), NONE);
            }
        }
        while (pages.is(0) < day) {
            pages.day(Math.min(60, day - pages.is(0)));
        }
        Due.is("DAY", pages.is(0), day);
    }

    static int lastLine(Used pages) {
        return pages.book(NONE, 0) - 1;
    }

    /** A line of the book, all of it. */
    static void line(Used pages, int i, int day, int what, int page, int frame) {
        Due.is("line " + i + ": DAY", pages.book(i, 0), day);
        Due.is("line " + i + ": what", pages.book(i, 1), what);
        Due.is("line " + i + ": the PAGE or FRAME", pages.book(i, 2), page);
        Due.is("line " + i + ": the FRAME", pages.book(i, 3), frame);
    }
}
