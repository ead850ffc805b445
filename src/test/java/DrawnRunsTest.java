import java.util.Random;

/** Drawn runs of calls: the class and the reference answer alike. */
public final class DrawnRunsTest {
    private static final int CALLS = 512;

    private final Used pages = new Used();
    private final Reference reference = new Reference();
    private final Random random;
    private final Texts texts;
    private final int run;
    private int calls = 0;

    private DrawnRunsTest(int run) {
        this.run = run;
        random = new Random(run);
        texts = new Texts(random);
    }

    public static void main(String[] args) {
        int runs = args.length > 0 ? Integer.parseInt(args[0]) : 300;
        int first = args.length > 1 ? Integer.parseInt(args[1]) : 0;
        for (int run = first; run < first + runs; run++) {
            new DrawnRunsTest(run).play(run % 40 == 39 ? 4 : run % 4);
            if (Due.wrongs() > 20) {
                break;
            }
        }
        Due.end();
    }

    private void due(String call, long got, long want) {
        calls++;
        Due.is("run " + run + ", call " + calls + ": " + call, got, want);
    }

    private void due(String call, boolean got, boolean want) {
        due(call, got ? 1 : 0, want ? 1 : 0);
    }

    private int near(int least, int most) {
        int edge = random.nextInt(40);
        if (edge == 0) {
            return random.nextInt();
        }
        if (edge < 4) {
            return new int[] {least - 1, most + 1, least - 2, Integer.MAX_VALUE, Integer.MIN_VALUE}[random.nextInt(5)];
        }
        return least + random.nextInt(most - least + 1);
    }

    private int someAddress() {
        int bits = reference.is(5);
        for (int i = 0; i < 20 && bits != 0; i++) {
            int address = random.nextInt(192);
            if (reference.at(address) != -1) {
                return address;
            }
        }
        return near(0, 191);
    }

    private int somePage() {
        int open = reference.is(5);
        for (int i = 0; i < 6; i++) {
            int page = random.nextInt(12);
            if ((open >> page & 1) == 1) {
                return page;
            }
        }
        return near(0, 11);
    }

    private void feed(String text) {
        due("end(0)", pages.end(0), reference.end(0));
        for (int i = 0; i < text.length(); i += 20) {
            int[] words = new int[5];
            for (int j = 0; j < 20 && i + j < text.length(); j++) {
                words[j / 4] |= (text.charAt(i + j) & 255) << 24 - j % 4 * 8;
            }
            due("feed", pages.feed(words[0], words[1], words[2], words[3], words[4]), reference.feed(words));
        }
        due("end", pages.end(text.length()), reference.end(text.length()));
    }

    private void read() {
        String text = texts.draw(random.nextInt(3) == 0);
        feed(text);
        String call = "text of " + text.replace("\n", "\\n");
        due(call, pages.text(), reference.text());
        due("fault(0) of " + call, pages.fault(0), reference.fault(0));
        due("fault(1) of " + call, pages.fault(1), reference.fault(1));
        due("about(4)", pages.about(4), reference.about(4));
    }

    private void play(int mode) {
        if (mode >= 1) {
            for (int i = 0; i < 3; i++) {
                read();
            }
        }
        if (mode >= 2) {
            fill();
        }
        if (mode == 4) {
            pass();
        }
        while (calls < CALLS && Due.wrongs() < 20) {
            if (random.nextInt(3) == 0) {
                change(mode);
            } else {
                ask();
            }
        }
    }

    /** Many pages of which few slots stay live. */
    private void fill() {
        StringBuilder text = new StringBuilder();
        for (int i = 0; i < 24; i++) {
            text.append("give ").append(random.nextInt(1000)).append(';');
        }
        due("back()", pages.back(), reference.back());
        feed(text.toString());
        due("text()", pages.text(), reference.text());
        int times = 3 + random.nextInt(6);
        for (int i = 0; i < times; i++) {
            due("played(0)", pages.played(0), reference.played(0));
        }
        int stay = 1 + random.nextInt(5);
        for (int page = 0; page < 12; page++) {
            while (Integer.bitCount(reference.page(page, 1)) > stay + random.nextInt(3) && calls < 300) {
                int slot = random.nextInt(16);
                if (reference.at(page * 16 + slot) != -1) {
                    int address = page * 16 + slot;
                    due("free(" + address + ")", pages.free(address), reference.free(address));
                }
            }
        }
        read();
        read();
        int law = random.nextInt(4) - 1;
        due("by(" + law + ")", pages.by(law), reference.by(law));
        due("image()", pages.image(), reference.image());
    }

    /** Days until the last one, or some ahead of it. */
    private void pass() {
        feed("day 60;".repeat(24) + "give 7;");
        int text = reference.text();
        due("text()", pages.text(), text);
        for (int i = 0; i < 7; i++) {
            int played = reference.played(text);
            due("played", pages.played(text), played);
            for (int j = random.nextInt(3); j > 0; j--) {
                due("undo()", pages.undo(), reference.undo());
            }
        }
        due("image()", pages.image(), reference.image());
    }

    private void change(int mode) {
        int a = somePage();
        int b = somePage();
        for (int i = 0; i < 20 && mode >= 2 && reference.can(a, b) != 0; i++) {
            a = somePage();
            b = somePage();
        }
        int n;
        switch (random.nextInt(mode == 0 ? 22 : 19)) {
            case 0: case 19: case 20: case 21:
                n = near(0, 999);
                due("give(" + n + ")", pages.give(n), reference.give(n));
                break;
            case 1: case 2:
                n = someAddress();
                due("free(" + n + ")", pages.free(n), reference.free(n));
                break;
            case 3:
                n = someAddress();
                a = near(0, 999);
                due("write(" + n + ", " + a + ")", pages.write(n, a), reference.write(n, a));
                break;
            case 4: due("mesh(" + a + ", " + b + ")", pages.mesh(a, b), reference.mesh(a, b)); break;
            case 5: case 6: due("fence(" + a + ", " + b + ")", pages.fence(a, b), reference.fence(a, b)); break;
            case 7: due("move()", pages.move(), reference.move()); break;
            case 8: case 9:
                if (random.nextInt(4) == 0) {
                    due("lift()", pages.lift(), reference.lift());
                }
                break;
            case 10: due("compact()", pages.compact(), reference.compact()); break;
            case 11:
                n = random.nextInt(mode == 4 ? 1 : mode >= 2 ? 9 : 3) == 0 ? near(1, 60) : near(1, 4);
                due("day(" + n + ")", pages.day(n), reference.day(n));
                break;
            case 12:
                n = near(0, 3);
                due("played(" + n + ")", pages.played(n), reference.played(n));
                break;
            case 13:
                if (mode >= 2 && random.nextInt(4) != 0) {
                    break;
                }
                a = near(0, 9999);
                n = near(1, 40);
                due("years(" + a + ", " + n + ")", pages.years(a, n), reference.years(a, n));
                break;
            case 14:
                for (int i = random.nextInt(8) == 0 ? 31 : 1 + random.nextInt(3); i > 0 && calls < CALLS; i--) {
                    due("undo()", pages.undo(), reference.undo());
                }
                break;
            case 15:
                n = near(-1, 3);
                due("by(" + n + ")", pages.by(n), reference.by(n));
                break;
            case 16:
                if (calls + 40 < CALLS) {
                    read();
                }
                break;
            case 17:
                a = near(-1, 16);
                b = near(0, 16);
                n = near(0, 1);
                due("said(" + a + ", " + b + ", " + n + ")", pages.said(a, b, n), reference.said(a, b, n));
                break;
            default:
                if (random.nextInt(3) == 0) {
                    due("image()", pages.image(), reference.image());
                } else if (random.nextInt(3) == 0) {
                    due("back()", pages.back(), reference.back());
                }
                break;
        }
    }

    private void ask() {
        int a = somePage();
        int b = somePage();
        boolean low = random.nextBoolean();
        int n;
        switch (random.nextInt(34)) {
            case 0: n = near(0, 1); due("fault(" + n + ")", pages.fault(n), reference.fault(n)); break;
            case 1: n = near(0, 191); due("at(" + n + ")", pages.at(n), reference.at(n)); break;
            case 2: n = near(0, 4); due("page(" + a + ", " + n + ")", pages.page(a, n), reference.page(a, n)); break;
            case 3: n = near(0, 15); due("vector(" + a + ", " + n + ")", pages.vector(a, n), reference.vector(a, n)); break;
            case 4:
                a = near(0, 11);
                n = near(0, 1);
                due("frame(" + a + ", " + n + ")", pages.frame(a, n), reference.frame(a, n));
                break;
            case 5: n = near(0, 5); due("is(" + n + ")", pages.is(n), reference.is(n)); break;
            case 6: case 7:
                a = near(-1, 24);
                n = near(0, 3);
                due("book(" + a + ", " + n + ")", pages.book(a, n), reference.book(a, n));
                break;
            case 8:
                a = near(1, 60);
                n = near(0, 2);
                due("foretold(" + a + ", " + n + ")", pages.foretold(a, n), reference.foretold(a, n));
                break;
            case 9: due("clash(" + a + ", " + b + ")", pages.clash(a, b), reference.clash(a, b)); break;
            case 10: case 11: due("can(" + a + ", " + b + ")", pages.can(a, b), reference.can(a, b)); break;
            case 12:
                a = near(0, 16);
                b = near(0, 16);
                due("odds(" + a + ", " + b + ", " + low + ")", pages.odds(a, b, low), reference.odds(a, b, low));
                break;
            case 13: due("expected(" + low + ")", pages.expected(low), reference.expected(low)); break;
            case 14: due("most()", pages.most(), reference.most()); break;
            case 15: n = near(0, 11); due("mate(" + n + ")", pages.mate(n), reference.mate(n)); break;
            case 16: due("fewest()", pages.fewest(), reference.fewest()); break;
            case 17: due("would()", pages.would(), reference.would()); break;
            case 18: due("sparse()", pages.sparse(), reference.sparse()); break;
            case 19: due("runs(" + a + ")", pages.runs(a), reference.runs(a)); break;
            case 20: due("longest(" + a + ")", pages.longest(a), reference.longest(a)); break;
            case 21: case 22:
                n = random.nextInt(3) == 0 ? near(1, 16) : near(1, 4);
                int pattern = near(0, (1 << Math.max(0, Math.min(16, n))) - 1);
                due("find(" + a + ", " + pattern + ", " + n + ")", pages.find(a, pattern, n), reference.find(a, pattern, n));
                break;
            case 23: due("same(" + a + ", " + b + ")", pages.same(a, b), reference.same(a, b)); break;
            case 24: due("sum(" + a + ")", pages.sum(a), reference.sum(a)); break;
            case 25:
                n = random.nextBoolean() ? near(0, 999) : reference.at(someAddress());
                due("holds(" + n + ")", pages.holds(n), reference.holds(n));
                break;
            case 26: due("fullest()", pages.fullest(), reference.fullest()); break;
            case 27: due("sound()", pages.sound(), reference.sound()); break;
            case 28: due("probes()", pages.probes(), reference.probes()); break;
            case 29: due("meshes(" + a + ", " + b + ")", pages.meshes(a, b), reference.meshes(a, b)); break;
            case 30: due("whose()", pages.whose(), reference.whose()); break;
            case 31: n = near(0, 4); due("ledger(" + n + ")", pages.ledger(n), reference.ledger(n)); break;
            default: n = near(0, 6); due("about(" + n + ")", pages.about(n), reference.about(n)); break;
        }
    }
}
