import java.util.ArrayList;
import java.util.List;
import java.util.Random;

/** Draws texts: whole ones, and ones with something amiss. */
final class Texts {
    private static final String[] TOKENS = {"meshes", "probes", "give", "free", "write", "mesh", "compact", "day",
        "at", "with", "live", "place", "if", "then", "else", "end", "or", "and", "not", "time", "pages", "frames",
        "one", "other", "sparse", "<", "<=", ">", ">=", "=", "#", "+", "-", "*", "/", "(", ")", ";", "0", "1", "12",
        "9999", "10000", "191", "192", "999", "1000", "60", "61", "!", "foo", "Meshes", "\t", "\u00e9"};

    private final Random random;
    private final List<String> tokens = new ArrayList<>();
    private String law = "";

    Texts(Random random) {
        this.random = random;
    }

    private void add(String... more) {
        tokens.addAll(List.of(more));
    }

    private String number(int least, int most) {
        int n = random.nextInt(8) == 0 ? (random.nextBoolean() ? least : most) : least + random.nextInt(most - least + 1);
        return (random.nextInt(10) == 0 ? "0" : "") + n;
    }

    private void clause(int pages) {
        switch (random.nextInt(8)) {
            case 0: case 1: case 2: add("give", number(0, 999), ";"); break;
            case 3: add("free", number(0, 191), ";"); break;
            case 4: add("write", number(0, 999), "at", number(0, 191), ";"); break;
            case 5: add("mesh", number(0, pages), "with", number(0, pages), ";"); break;
            case 6: add("compact", ";"); break;
            default: add("day", random.nextInt(3) == 0 ? number(1, 60) : number(1, 5), ";"); break;
        }
    }

    private void lawClause(String name, int size) {
        law = name;
        add(name);
        sum(size, 0);
        add(";");
    }

    private void sum(int size, int depth) {
        product(size, depth);
        while (random.nextInt(5) < size) {
            add(random.nextBoolean() ? "+" : "-");
            product(size - 1, depth);
            size--;
        }
    }

    private void product(int size, int depth) {
        one(size, depth);
        while (random.nextInt(7) < size) {
            add(random.nextBoolean() ? "*" : "/");
            one(size - 1, depth);
            size--;
        }
    }

    private void one(int size, int depth) {
        int kind = size <= 0 || depth > 8 ? random.nextInt(5) : random.nextInt(12);
        if (kind < 2) {
            add(random.nextInt(6) == 0 ? number(0, 9999) : number(0, 16));
        } else if (kind < 5) {
            String apart = law.equals("probes") ? "sparse" : random.nextBoolean() ? "one" : "other";
            String[] names = {"time", "pages", "frames", apart, apart, apart};
            add(names[random.nextInt(names.length)]);
        } else if (kind == 5) {
            add("(");
            sum(size - 1, depth + 1);
            add(")");
        } else if (kind < 9) {
            add(new String[] {"-", "live", "place"}[kind - 6]);
            one(size - 1, depth + 1);
        } else {
            add("if");
            either(size - 1, depth + 1);
            add("then");
            sum(size - 1, depth + 1);
            add("else");
            sum(size - 1, depth + 1);
            add("end");
        }
    }

    private void either(int size, int depth) {
        ask(size, depth);
        while (random.nextInt(5) < size) {
            add(random.nextBoolean() ? "or" : "and");
            ask(size - 1, depth);
            size--;
        }
    }

    private void ask(int size, int depth) {
        if (random.nextInt(5) == 0) {
            add("not");
            ask(size - 1, depth + 1);
            return;
        }
        sum(size - 1, depth);
        add(new String[] {"<", "<=", ">", ">=", "=", "#"}[random.nextInt(6)]);
        sum(size - 1, depth);
    }

    /** As deep as it may be, or deeper by some. */
    private void deep() {
        law = "probes";
        add("probes");
        int depth = 6 + random.nextInt(4);
        List<String> behind = new ArrayList<>();
        for (int i = 0; i < depth; i++) {
            switch (random.nextInt(6)) {
                case 0: add("("); behind.add(0, ")"); break;
                case 1: add("-"); break;
                case 2: add("live"); break;
                case 3: add("place"); break;
                case 4:
                    add("if");
                    behind.add(0, "< 1 then 1 else 2 end");
                    break;
                default: add("if", "not"); behind.add(0, "# 7 then pages else time end"); i++; break;
            }
        }
        add("sparse");
        for (String token : behind) {
            add(token);
        }
        add(";");
    }

    /** A whole text, or one in which a few tokens are others. */
    String draw(boolean amiss) {
        tokens.clear();
        int kind = random.nextInt(10);
        int clauses = kind == 0 ? 20 + random.nextInt(8) : random.nextInt(7);
        int lawAt = random.nextInt(clauses + 1);
        int otherLawAt = random.nextInt(clauses + 1);
        for (int i = 0; i <= clauses; i++) {
            if (i == lawAt && random.nextInt(4) != 0) {
                lawClause("meshes", random.nextInt(4));
            }
            if (i == otherLawAt && random.nextInt(4) != 0) {
                lawClause("probes", random.nextInt(4));
            }
            if (i < clauses) {
                clause(random.nextInt(2) == 0 ? 3 : 11);
            }
        }
        if (random.nextInt(12) == 0) {
            tokens.clear();
            deep();
        }
        for (int i = 0; amiss && i < 1 + random.nextInt(2) && !tokens.isEmpty(); i++) {
            int at = random.nextInt(tokens.size());
            String token = TOKENS[random.nextInt(TOKENS.length)];
            switch (random.nextInt(3)) {
                case 0: tokens.set(at, token); break;
                case 1: tokens.add(at, token); break;
                default: tokens.remove(at); break;
            }
        }
        return joined(amiss);
    }

    private String joined(boolean amiss) {
        StringBuilder text = new StringBuilder();
        boolean close = random.nextBoolean();
        for (String token : tokens) {
            boolean touch = text.length() > 0 && fits(text.charAt(text.length() - 1), token.charAt(0));
            boolean glue = amiss && random.nextInt(40) == 0;
            if (text.length() > 0 && !(touch && close) && !glue) {
                text.append(random.nextInt(6) == 0 ? '\n' : ' ');
            }
            text.append(token);
        }
        if (random.nextInt(5) == 0) {
            text.append(" \n");
        }
        if (amiss && random.nextInt(6) == 0 && text.length() > 0) {
            text.setLength(random.nextInt(text.length()));
        }
        return text.length() > 300 ? text.substring(0, 300) : text.toString();
    }

    private static boolean fits(char last, char first) {
        boolean words = Character.isLetter(last) && Character.isLetter(first);
        boolean numbers = Character.isDigit(last) && Character.isDigit(first);
        return !words && !numbers && !((last == '<' || last == '>') && first == '=');
    }
}
