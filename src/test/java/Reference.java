import java.math.BigInteger;
import java.util.ArrayList;
import java.util.Arrays;
import java.util.HashMap;
import java.util.List;
import java.util.Map;
import java.util.TreeMap;
import java.util.TreeSet;

/**
 * The document once more, written in another way: pages hold maps of their values, sums are asked
 * from the tokens themselves, faults are found by a table of what may come, and what is counted is
 * counted by trying all.
 */
final class Reference {
    private static final int NONE = -1;

    /** Part I. */
    static final class World {
        int day;
        int x = 503;
        int meshed;
        int goes = NONE;
        int stays = NONE;
        TreeSet<Integer> yet = new TreeSet<>();
        Map<Integer, Integer> frameOf = new TreeMap<>();
        Map<Integer, List<Integer>> vectorOf = new HashMap<>();
        TreeMap<Integer, Integer> valueOf = new TreeMap<>();
        List<int[]> book = new ArrayList<>();

        World copy() {
            World copy = new World();
            copy.day = day;
            copy.x = x;
            copy.meshed = meshed;
            copy.goes = goes;
            copy.stays = stays;
            copy.yet.addAll(yet);
            copy.frameOf.putAll(frameOf);
            for (Map.Entry<Integer, List<Integer>> entry : vectorOf.entrySet()) {
                copy.vectorOf.put(entry.getKey(), new ArrayList<>(entry.getValue()));
            }
            copy.valueOf.putAll(valueOf);
            copy.book.addAll(book);
            return copy;
        }

        int draw(int n) {
            int drawn = x % n;
            x = (x * 769 + 631) % 31123;
            return drawn;
        }

        void write(int what, int page, int frame) {
            book.add(new int[] {day, what, page, frame});
            while (book.size() > 25) {
                book.remove(0);
            }
        }

        TreeSet<Integer> slotsOfPage(int page) {
            TreeSet<Integer> slots = new TreeSet<>();
            for (int address : valueOf.keySet()) {
                if (address / 16 == page) {
                    slots.add(address % 16);
                }
            }
            return slots;
        }

        TreeSet<Integer> slotsOfFrame(int frame) {
            TreeSet<Integer> slots = new TreeSet<>();
            for (int page : frameOf.keySet()) {
                if (frameOf.get(page) == frame) {
                    slots.addAll(slotsOfPage(page));
                }
            }
            return slots;
        }

        TreeSet<Integer> frames() {
            return new TreeSet<>(frameOf.values());
        }

        boolean fenced(int page) {
            return frameOf.containsKey(page) && frameOf.get(page) == goes;
        }

        int slotToGive(int page) {
            if (!frameOf.containsKey(page) || fenced(page)) {
                return NONE;
            }
            TreeSet<Integer> taken = slotsOfFrame(frameOf.get(page));
            if (frameOf.get(page) == stays) {
                taken.addAll(slotsOfFrame(goes));
            }
            for (int slot : vectorOf.get(page)) {
                if (!taken.contains(slot)) {
                    return slot;
                }
            }
            return NONE;
        }

        int give(int value) {
            int giving = NONE;
            for (int page = 11; page >= 0; page--) {
                if (slotToGive(page) != NONE) {
                    giving = page;
                }
            }
            if (giving == NONE) {
                for (int page = 11; page >= 0; page--) {
                    if (!frameOf.containsKey(page)) {
                        giving = page;
                    }
                }
                if (giving == NONE) {
                    return NONE;
                }
                int frame = 0;
                while (frameOf.containsValue(frame)) {
                    frame++;
                }
                frameOf.put(giving, frame);
                List<Integer> vector = new ArrayList<>();
                for (int i = 0; i < 16; i++) {
                    vector.add(i);
                }
                for (int k = 15; k > 0; k--) {
                    int j = draw(k + 1);
                    Integer held = vector.get(k);
                    vector.set(k, vector.get(j));
                    vector.set(j, held);
                }
                vectorOf.put(giving, vector);
                write(0, giving, frame);
            }
            int address = giving * 16 + slotToGive(giving);
            valueOf.put(address, value);
            return address;
        }

        boolean reaches(int address) {
            return valueOf.containsKey(address) && !fenced(address / 16);
        }

        int free(int address) {
            int value = valueOf.remove(address);
            int page = address / 16;
            if (slotsOfPage(page).isEmpty()) {
                write(1, page, frameOf.remove(page));
                vectorOf.remove(page);
            }
            return value;
        }

        /** Values stay with their addresses, so meshing only says how many would be copied. */
        int mesh(int a, int b) {
            int one = frameOf.get(a);
            int other = frameOf.get(b);
            boolean second = slotsOfFrame(other).size() <= slotsOfFrame(one).size();
            int copied = slotsOfFrame(second ? other : one).size();
            join(second ? other : one, second ? one : other);
            return copied;
        }

        void join(int from, int to) {
            frameOf.replaceAll((page, frame) -> frame == from ? to : frame);
            meshed++;
            write(2, to, from);
        }

        int fence(int a, int b) {
            boolean second = slotsOfFrame(frameOf.get(b)).size() <= slotsOfFrame(frameOf.get(a)).size();
            goes = frameOf.get(second ? b : a);
            stays = frameOf.get(second ? a : b);
            yet = slotsOfFrame(goes);
            write(3, goes, stays);
            return yet.size();
        }

        int move() {
            yet.pollFirst();
            if (yet.isEmpty()) {
                join(goes, stays);
                goes = NONE;
                stays = NONE;
            }
            return yet.size();
        }

        void lift() {
            write(4, goes, stays);
            goes = NONE;
            stays = NONE;
            yet.clear();
        }

        TreeSet<Integer> sparse() {
            TreeSet<Integer> sparse = new TreeSet<>();
            for (int frame : frames()) {
                if (frame != goes && frame != stays && slotsOfFrame(frame).size() < 9) {
                    sparse.add(frame);
                }
            }
            return sparse;
        }

        int can(int a, int b, Law law) {
            if (a < 0 || a > 11 || b < 0 || b > 11) {
                return NONE;
            }
            Integer one = frameOf.get(a);
            Integer other = frameOf.get(b);
            if (one == null || other == null) {
                return 1;
            }
            if (one.equals(other)) {
                return 2;
            }
            if (goes != NONE && (one == goes || one == stays || other == goes || other == stays)) {
                return 3;
            }
            TreeSet<Integer> both = slotsOfFrame(one);
            both.retainAll(slotsOfFrame(other));
            if (!both.isEmpty()) {
                return 4;
            }
            return law.lets(this, slotsOfFrame(one).size(), slotsOfFrame(other).size()) ? 0 : 5;
        }

        int compact(Law law) {
            int probes = law.probes(this);
            List<Integer> row = new ArrayList<>(sparse());
            for (int k = row.size() - 1; k >= 1; k--) {
                int j = draw(k + 1);
                int held = row.get(k);
                row.set(k, row.get(j));
                row.set(j, held);
            }
            int half = row.size() / 2;
            List<Integer> left = new ArrayList<>(row.subList(0, half));
            List<Integer> right = new ArrayList<>(row.subList(half, 2 * half));
            int count = 0;
            for (int i = 0; i < probes; i++) {
                for (int j = 0; j < half; j++) {
                    int one = left.get(j);
                    int at = (i + j) % half;
                    int other = right.get(at);
                    if (one == NONE || other == NONE) {
                        continue;
                    }
                    int a = lowestIn(one);
                    int b = lowestIn(other);
                    if (can(a, b, law) == 0) {
                        mesh(a, b);
                        left.set(j, NONE);
                        right.set(at, NONE);
                        count++;
                    }
                }
            }
            return count;
        }

        int lowestIn(int frame) {
            for (int page : frameOf.keySet()) {
                if (frameOf.get(page) == frame) {
                    return page;
                }
            }
            return NONE;
        }

        boolean pass(Law law) {
            boolean done = true;
            int lot = draw(8);
            if (lot < 4) {
                done = give(draw(1000)) != NONE;
            } else if (lot == 7) {
                compact(law);
            } else if (valueOf.isEmpty()) {
                done = false;
            } else {
                int address = new ArrayList<>(valueOf.keySet()).get(draw(valueOf.size()));
                done = reaches(address);
                if (done) {
                    free(address);
                }
            }
            day++;
            return done;
        }
    }

    /** A text's tokens: asked anew each time. */
    static final class Law {
        List<String> tokens = new ArrayList<>();
        private int at;
        private World world;
        private int one;
        private int other;

        private int start(String law) {
            for (int i = 0; i < tokens.size(); i++) {
                if (tokens.get(i).equals(law) && (i == 0 || tokens.get(i - 1).equals(";"))) {
                    return i + 1;
                }
            }
            return NONE;
        }

        private long ask(String law, World in, int ones, int others, long without) {
            at = start(law);
            if (at == NONE) {
                return without;
            }
            world = in;
            one = ones;
            other = others;
            return sum();
        }

        boolean lets(World in, int ones, int others) {
            return ask("meshes", in, ones, others, 1) > 0;
        }

        int probes(World in) {
            long said = ask("probes", in, 0, 0, 3);
            return said < 0 ? 0 : said > 12 ? 12 : (int) said;
        }

        private boolean comes(String token) {
            if (at < tokens.size() && tokens.get(at).equals(token)) {
                at++;
                return true;
            }
            return false;
        }

        private static long cut(BigInteger worth) {
            BigInteger most = BigInteger.valueOf(1000000);
            return worth.min(most).max(most.negate()).longValue();
        }

        private long sum() {
            BigInteger sum = BigInteger.valueOf(product());
            while (true) {
                if (comes("+")) {
                    sum = BigInteger.valueOf(cut(sum.add(BigInteger.valueOf(product()))));
                } else if (comes("-")) {
                    sum = BigInteger.valueOf(cut(sum.subtract(BigInteger.valueOf(product()))));
                } else {
                    return sum.longValue();
                }
            }
        }

        private long product() {
            BigInteger product = BigInteger.valueOf(one());
            while (true) {
                if (comes("*")) {
                    product = BigInteger.valueOf(cut(product.multiply(BigInteger.valueOf(one()))));
                } else if (comes("/")) {
                    BigInteger by = BigInteger.valueOf(one());
                    product = by.signum() == 0 ? by : product.divide(by);
                } else {
                    return product.longValue();
                }
            }
        }

        private long one() {
            String token = tokens.get(at);
            at++;
            switch (token) {
                case "time": return world.day;
                case "pages": return world.frameOf.size();
                case "frames": return world.frames().size();
                case "one": return one;
                case "other": return other;
                case "sparse": return world.sparse().size();
                case "-": return -one();
                case "live": {
                    long page = one();
                    return page < 0 || page > 11 ? 0 : world.slotsOfPage((int) page).size();
                }
                case "place": {
                    long page = one();
                    return page < 0 || page > 11 ? 0 : 1 + world.frameOf.getOrDefault((int) page, NONE);
                }
                case "(": {
                    long worth = sum();
                    at++;
                    return worth;
                }
                case "if": {
                    boolean so = either();
                    at++;
                    long then = sum();
                    at++;
                    long otherwise = sum();
                    at++;
                    return so ? then : otherwise;
                }
                default: return Long.parseLong(token);
            }
        }

        private boolean either() {
            boolean so = both();
            while (comes("or")) {
                so |= both();
            }
            return so;
        }

        private boolean both() {
            boolean so = asked();
            while (comes("and")) {
                so &= asked();
            }
            return so;
        }

        private boolean asked() {
            if (comes("not")) {
                return !asked();
            }
            long left = sum();
            String sign = tokens.get(at);
            at++;
            long right = sum();
            switch (sign) {
                case "<": return left < right;
                case "<=": return left <= right;
                case ">": return left > right;
                case ">=": return left >= right;
                case "=": return left == right;
                default: return left != right;
            }
        }

        List<List<String>> clauses() {
            List<List<String>> clauses = new ArrayList<>();
            List<String> clause = new ArrayList<>();
            for (String token : tokens) {
                if (token.equals(";")) {
                    clauses.add(clause);
                    clause = new ArrayList<>();
                } else {
                    clause.add(token);
                }
            }
            return clauses;
        }
    }

    /** Reads a text by a pile of what is due yet. */
    static final class Checker {
        int fault;
        int place = NONE;
        final List<String> tokens = new ArrayList<>();
        private final List<Integer> places = new ArrayList<>();

        Checker(byte[] bytes) {
            StringBuilder text = new StringBuilder();
            for (byte b : bytes) {
                text.append((char) (b & 255));
            }
            java.util.regex.Matcher matcher =
                java.util.regex.Pattern.compile("[a-zA-Z]+|[0-9]+|<=|>=|[^ \n]").matcher(text);
            while (matcher.find()) {
                tokens.add(matcher.group());
                places.add(matcher.start());
            }
            tokens.add("");
            places.add(bytes.length);
            check();
            tokens.remove(tokens.size() - 1);
        }

        private void check() {
            ArrayList<String> due = new ArrayList<>(List.of("TEXT"));
            TreeSet<String> laws = new TreeSet<>();
            String law = "";
            int open = 0;
            int clauses = 0;
            int i = 0;
            while (true) {
                String token = tokens.get(i);
                String top = due.remove(due.size() - 1);
                boolean taken = false;
                int found = 0;
                switch (top) {
                    case "TEXT":
                        if (token.isEmpty()) {
                            return;
                        }
                        String body = BODIES.get(token);
                        if (body == null) {
                            found = 1;
                        } else if (laws.contains(token)) {
                            found = 4;
                        } else if (clauses == 24) {
                            found = 6;
                        } else {
                            clauses++;
                            law = token;
                            if (body.equals("SUM ;")) {
                                laws.add(token);
                            }
                            push(due, body + " TEXT");
                            taken = true;
                        }
                        break;
                    case "VALUE": found = number(token, 0, 999); taken = true; break;
                    case "ADDRESS": found = number(token, 0, 191); taken = true; break;
                    case "PAGE": found = number(token, 0, 11); taken = true; break;
                    case "DAYS": found = number(token, 1, 60); taken = true; break;
                    case "SUM": push(due, "PRODUCT SUMS"); break;
                    case "SUMS":
                        if (token.equals("+") || token.equals("-")) {
                            push(due, "PRODUCT SUMS");
                            taken = true;
                        }
                        break;
                    case "PRODUCT": push(due, "ONE PRODUCTS"); break;
                    case "PRODUCTS":
                        if (token.equals("*") || token.equals("/")) {
                            push(due, "ONE PRODUCTS");
                            taken = true;
                        }
                        break;
                    case "EITHER": push(due, "BOTH EITHERS"); break;
                    case "EITHERS":
                        if (token.equals("or")) {
                            push(due, "BOTH EITHERS");
                            taken = true;
                        }
                        break;
                    case "BOTH": push(due, "ASK BOTHS"); break;
                    case "BOTHS":
                        if (token.equals("and")) {
                            push(due, "ASK BOTHS");
                            taken = true;
                        }
                        break;
                    case "ASK":
                        if (token.equals("not")) {
                            push(due, "ASK SHUT");
                            found = open == 8 ? 3 : 0;
                            open++;
                            taken = true;
                        } else {
                            push(due, "SUM COMPARE SUM");
                        }
                        break;
                    case "COMPARE":
                        found = List.of("<", "<=", ">", ">=", "=", "#").contains(token) ? 0 : 1;
                        taken = true;
                        break;
                    case "SHUT": open--; break;
                    case "ONE":
                        taken = true;
                        if (OPENERS.containsKey(token)) {
                            push(due, OPENERS.get(token) + " SHUT");
                            found = open == 8 ? 3 : 0;
                            open++;
                        } else if (List.of("time", "pages", "frames", "one", "other", "sparse").contains(token)) {
                            boolean apart = law.equals("meshes") ? token.equals("sparse")
                                : token.equals("one") || token.equals("other");
                            found = apart ? 5 : 0;
                        } else {
                            found = number(token, 0, 9999);
                        }
                        break;
                    default:
                        found = top.equals(token) ? 0 : 1;
                        taken = true;
                        break;
                }
                if (found != 0) {
                    fault = found;
                    place = places.get(i);
                    return;
                }
                if (taken) {
                    i++;
                }
            }
        }

        private static final Map<String, String> BODIES = Map.of("meshes", "SUM ;", "probes", "SUM ;",
            "give", "VALUE ;", "free", "ADDRESS ;", "write", "VALUE at ADDRESS ;", "mesh", "PAGE with PAGE ;",
            "compact", ";", "day", "DAYS ;");
        private static final Map<String, String> OPENERS = Map.of("(", "SUM )", "-", "ONE", "live", "ONE",
            "place", "ONE", "if", "EITHER then SUM else SUM end");

        private static void push(List<String> due, String symbols) {
            String[] each = symbols.split(" ");
            for (int i = each.length - 1; i >= 0; i--) {
                due.add(each[i]);
            }
        }

        private static int number(String token, int least, int most) {
            if (!token.matches("[0-9]+")) {
                return 1;
            }
            BigInteger number = new BigInteger(token);
            return number.compareTo(BigInteger.valueOf(least)) < 0
                || number.compareTo(BigInteger.valueOf(most)) > 0 ? 2 : 0;
        }
    }

    private byte[] tape = new byte[0];
    private int fault = NONE;
    private int place = NONE;
    private World world = new World();
    private List<World> steps = new ArrayList<>();
    private List<Law> texts = new ArrayList<>();
    private int ruling = NONE;
    private List<int[]> said = new ArrayList<>();
    private Object[] image = {new World(), new ArrayList<World>(), new ArrayList<Law>(), NONE, new ArrayList<int[]>()};

    private Law law() {
        return ruling == NONE ? new Law() : texts.get(ruling);
    }

    private void step() {
        steps.add(world.copy());
        if (steps.size() > 30) {
            steps.remove(0);
        }
    }

    private static boolean in(int n, int least, int most) {
        return n >= least && n <= most;
    }

    int feed(int... words) {
        if (tape.length + 20 > 300) {
            return NONE;
        }
        java.nio.ByteBuffer fed = java.nio.ByteBuffer.allocate(tape.length + 20).put(tape);
        for (int word : words) {
            fed.putInt(word);
        }
        tape = fed.array();
        return tape.length;
    }

    int end(int n) {
        if (!in(n, 0, tape.length)) {
            return NONE;
        }
        tape = Arrays.copyOf(tape, n);
        return n;
    }

    int text() {
        if (texts.size() == 4) {
            return NONE;
        }
        Checker checker = new Checker(tape);
        tape = new byte[0];
        fault = checker.fault;
        place = checker.place;
        if (fault != 0) {
            return NONE;
        }
        Law law = new Law();
        law.tokens = checker.tokens;
        texts.add(law);
        return texts.size() - 1;
    }

    int fault(int what) {
        return what == 0 ? fault : what == 1 ? place : NONE;
    }

    boolean by(int text) {
        if (!in(text, NONE, texts.size() - 1)) {
            return false;
        }
        ruling = text;
        return true;
    }

    int give(int value) {
        if (!in(value, 0, 999) || world.copy().give(value) == NONE) {
            return NONE;
        }
        step();
        return world.give(value);
    }

    int free(int address) {
        if (!world.reaches(address)) {
            return NONE;
        }
        step();
        return world.free(address);
    }

    boolean write(int address, int value) {
        if (!in(value, 0, 999) || !world.reaches(address)) {
            return false;
        }
        step();
        world.valueOf.put(address, value);
        return true;
    }

    int mesh(int a, int b) {
        if (can(a, b) != 0) {
            return NONE;
        }
        step();
        return world.mesh(a, b);
    }

    int fence(int a, int b) {
        if (can(a, b) != 0 || world.goes != NONE) {
            return NONE;
        }
        step();
        return world.fence(a, b);
    }

    int move() {
        if (world.goes == NONE) {
            return NONE;
        }
        step();
        return world.move();
    }

    boolean lift() {
        if (world.goes == NONE) {
            return false;
        }
        step();
        world.lift();
        return true;
    }

    int compact() {
        step();
        return world.compact(law());
    }

    int day(int n) {
        if (!in(n, 1, 60) || world.day + n > 9999) {
            return NONE;
        }
        int done = 0;
        for (int i = 0; i < n; i++) {
            step();
            done += world.pass(law()) ? 1 : 0;
        }
        return done;
    }

    int played(int text) {
        if (!in(text, 0, texts.size() - 1)) {
            return -2;
        }
        List<List<String>> clauses = texts.get(text).clauses();
        for (int i = 0; i < clauses.size(); i++) {
            if (!play(clauses.get(i))) {
                return i;
            }
        }
        return NONE;
    }

    private boolean play(List<String> clause) {
        int first = clause.size() > 1 && clause.get(1).matches("[0-9]+") ? Integer.parseInt(clause.get(1)) : NONE;
        int second = clause.size() > 3 && clause.get(3).matches("[0-9]+") ? Integer.parseInt(clause.get(3)) : NONE;
        switch (clause.get(0)) {
            case "give": return give(first) != NONE;
            case "free": return free(first) != NONE;
            case "write": return write(second, first);
            case "mesh": return mesh(first, second) != NONE;
            case "compact": return compact() != NONE;
            case "day":
                for (int i = 0; i < first; i++) {
                    if (day(1) == NONE) {
                        return false;
                    }
                }
                return true;
            default: return true;
        }
    }

    int years(int seed, int n) {
        if (!in(seed, 0, 9999) || !in(n, 1, 40)) {
            return NONE;
        }
        step();
        world.x = seed * 2 + 503;
        for (int i = 0; i < n && world.day < 9999; i++) {
            world.pass(law());
        }
        return world.day;
    }

    int undo() {
        if (steps.isEmpty()) {
            return NONE;
        }
        world = steps.remove(steps.size() - 1).copy();
        return steps.size();
    }

    int at(int address) {
        return world.valueOf.getOrDefault(address, NONE);
    }

    private static int bits(Iterable<Integer> of) {
        int bits = 0;
        for (int i : of) {
            bits |= 1 << i;
        }
        return bits;
    }

    int page(int page, int what) {
        if (!in(page, 0, 11)) {
            return -2;
        }
        switch (what) {
            case 0: return world.frameOf.getOrDefault(page, NONE);
            case 1: return bits(world.slotsOfPage(page));
            case 2: return world.slotsOfPage(page).size();
            case 3: return world.fenced(page) ? 1 : 0;
            case 4: return world.slotToGive(page);
            default: return -2;
        }
    }

    int vector(int page, int i) {
        return world.vectorOf.containsKey(page) && in(i, 0, 15) ? world.vectorOf.get(page).get(i) : NONE;
    }

    int frame(int frame, int what) {
        if (!in(frame, 0, 11) || !in(what, 0, 1)) {
            return -2;
        }
        TreeSet<Integer> pages = new TreeSet<>(world.frameOf.keySet());
        pages.removeIf(page -> world.frameOf.get(page) != frame);
        return bits(what == 0 ? pages : world.slotsOfFrame(frame));
    }

    int is(int what) {
        switch (what) {
            case 0: return world.day;
            case 1: return world.x;
            case 2: return world.frames().size();
            case 3: return world.valueOf.size();
            case 4: return world.meshed;
            case 5: return bits(world.frameOf.keySet());
            default: return -2;
        }
    }

    int book(int i, int what) {
        if (i == NONE) {
            return world.book.size();
        }
        return in(i, 0, world.book.size() - 1) && in(what, 0, 3) ? world.book.get(i)[what] : -2;
    }

    int foretold(int n, int what) {
        if (!in(n, 1, 60) || !in(what, 0, 2)) {
            return NONE;
        }
        World held = world;
        world = world.copy();
        for (int i = 0; i < n && world.day < 9999; i++) {
            world.pass(law());
        }
        int told = is(what + 2);
        world = held;
        return told;
    }

    private boolean open(int a, int b) {
        return world.frameOf.containsKey(a) && world.frameOf.containsKey(b);
    }

    int clash(int a, int b) {
        return open(a, b) ? frame(world.frameOf.get(a), 1) & frame(world.frameOf.get(b), 1) : NONE;
    }

    int can(int a, int b) {
        return world.can(a, b, law());
    }

    private static BigInteger choose(int n, int k) {
        if (k == 0) {
            return BigInteger.ONE;
        }
        return n == 0 ? BigInteger.ZERO : choose(n - 1, k - 1).add(choose(n - 1, k));
    }

    /** Pascal's triangle is slow by recursion: each pair is told once. */
    private static final BigInteger[][] ODDS = new BigInteger[17 * 17][];

    private static BigInteger[] fraction(int a, int b) {
        int key = a * 17 + b;
        if (ODDS[key] == null) {
            ODDS[key] = lowest(choose(16 - a, b), choose(16, b));
        }
        return ODDS[key];
    }

    private static BigInteger[] lowest(BigInteger upper, BigInteger lower) {
        BigInteger by = upper.gcd(lower);
        return new BigInteger[] {upper.divide(by), lower.divide(by)};
    }

    long odds(int a, int b, boolean low) {
        return in(a, 0, 16) && in(b, 0, 16) ? fraction(a, b)[low ? 1 : 0].longValueExact() : NONE;
    }

    long expected(boolean low) {
        BigInteger[] sum = {BigInteger.ZERO, BigInteger.ONE};
        for (int f : world.frames()) {
            for (int g : world.frames().tailSet(f, false)) {
                BigInteger[] odds = fraction(world.slotsOfFrame(f).size(), world.slotsOfFrame(g).size());
                sum = lowest(sum[0].multiply(odds[1]).add(odds[0].multiply(sum[1])), sum[1].multiply(odds[1]));
            }
        }
        return sum[low ? 1 : 0].longValueExact();
    }

    private int mostPairs;
    private int[] mostRow;

    /** Rows come in their order, so that the first one with so many pairs is the lowest. */
    private void tryRows(int frame, int[] row, int pairs) {
        if (frame == 12) {
            if (pairs > mostPairs) {
                mostPairs = pairs;
                mostRow = row.clone();
            }
            return;
        }
        if (row[frame] == NONE && world.frameOf.containsValue(frame)) {
            int live = frame(frame, 1);
            for (int other = frame + 1; other < 12; other++) {
                if (row[other] == NONE && world.frameOf.containsValue(other) && (frame(other, 1) & live) == 0) {
                    row[frame] = other;
                    row[other] = frame;
                    tryRows(frame + 1, row, pairs + 1);
                    row[frame] = NONE;
                    row[other] = NONE;
                }
            }
        }
        tryRows(frame + 1, row, pairs);
    }

    private void tryAllRows() {
        mostPairs = NONE;
        int[] row = new int[12];
        Arrays.fill(row, NONE);
        tryRows(0, row, 0);
    }

    int most() {
        tryAllRows();
        return mostPairs;
    }

    int mate(int frame) {
        tryAllRows();
        return in(frame, 0, 11) ? mostRow[frame] : NONE;
    }

    /** By sets: fewest of a set is one more than fewest of what is left by any group that holds its lowest. */
    int fewest() {
        List<Integer> frames = new ArrayList<>(world.frames());
        int n = frames.size();
        int[] lives = new int[n];
        for (int i = 0; i < n; i++) {
            lives[i] = frame(frames.get(i), 1);
        }
        boolean[] fits = new boolean[1 << n];
        for (int set = 0; set < 1 << n; set++) {
            int taken = 0;
            fits[set] = true;
            for (int i = 0; i < n; i++) {
                if ((set >> i & 1) == 1) {
                    fits[set] &= (taken & lives[i]) == 0;
                    taken |= lives[i];
                }
            }
        }
        int[] fewest = new int[1 << n];
        for (int set = 1; set < 1 << n; set++) {
            fewest[set] = 99;
            for (int group = set; group > 0; group = group - 1 & set) {
                if (fits[group] && (group & set & -set) != 0) {
                    fewest[set] = Math.min(fewest[set], 1 + fewest[set ^ group]);
                }
            }
        }
        return fewest[(1 << n) - 1];
    }

    int would() {
        return world.copy().compact(law());
    }

    int sparse() {
        return bits(world.sparse());
    }

    private String picture(int page) {
        StringBuilder picture = new StringBuilder();
        for (int slot = 0; slot < 16; slot++) {
            picture.append(world.valueOf.containsKey(page * 16 + slot) ? '1' : '0');
        }
        return picture.toString();
    }

    int runs(int page) {
        if (!open(page, page)) {
            return NONE;
        }
        int runs = 0;
        for (String run : picture(page).split("0+")) {
            runs += run.isEmpty() ? 0 : 1;
        }
        return runs;
    }

    int longest(int page) {
        if (!open(page, page)) {
            return NONE;
        }
        int longest = 0;
        for (String run : picture(page).split("0+")) {
            longest = Math.max(longest, run.length());
        }
        return longest;
    }

    int find(int page, int pattern, int n) {
        if (!open(page, page) || !in(n, 1, 16) || !in(pattern, 0, (1 << n) - 1)) {
            return NONE;
        }
        StringBuilder sought = new StringBuilder();
        for (int i = 0; i < n; i++) {
            sought.append(pattern >> i & 1);
        }
        return picture(page).indexOf(sought.toString());
    }

    int same(int a, int b) {
        if (!open(a, b)) {
            return NONE;
        }
        int same = 0;
        for (int slot = 0; slot < 16; slot++) {
            same += picture(a).charAt(slot) == picture(b).charAt(slot) ? 1 : 0;
        }
        return same;
    }

    int sum(int page) {
        if (!open(page, page)) {
            return NONE;
        }
        int sum = 0;
        for (int value : world.valueOf.subMap(page * 16, page * 16 + 16).values()) {
            sum += value;
        }
        return sum;
    }

    int holds(int value) {
        for (Map.Entry<Integer, Integer> entry : world.valueOf.entrySet()) {
            if (entry.getValue() == value) {
                return entry.getKey();
            }
        }
        return NONE;
    }

    int fullest() {
        int fullest = NONE;
        for (int page : world.frameOf.keySet()) {
            if (fullest == NONE || world.slotsOfPage(page).size() > world.slotsOfPage(fullest).size()) {
                fullest = page;
            }
        }
        return fullest;
    }

    /** By all that a page can come to it is sound. */
    boolean sound() {
        return true;
    }

    int probes() {
        return law().probes(world);
    }

    boolean meshes(int a, int b) {
        return open(a, b) && law().lets(world, world.slotsOfFrame(world.frameOf.get(a)).size(),
            world.slotsOfFrame(world.frameOf.get(b)).size());
    }

    int said(int one, int other, int lets) {
        if (one == NONE) {
            said.clear();
            return 0;
        }
        if (!in(one, 0, 16) || !in(other, 0, 16) || !in(lets, 0, 1) || said.size() == 8) {
            return -2;
        }
        said.add(new int[] {one, other, lets});
        return said.size();
    }

    int whose() {
        int whose = 0;
        for (int i = 0; i < texts.size(); i++) {
            boolean all = true;
            for (int[] told : said) {
                all &= texts.get(i).lets(world, told[0], told[1]) == (told[2] == 1);
            }
            whose |= all ? 1 << i : 0;
        }
        return whose;
    }

    int ledger(int what) {
        if (!in(what, 0, 4)) {
            return -2;
        }
        int count = 0;
        for (int[] line : world.book) {
            count += line[1] == what ? 1 : 0;
        }
        return count;
    }

    private Object[] whole(World world, List<?> steps, List<?> texts, int ruling, List<?> said) {
        return new Object[] {world.copy(), new ArrayList<>(steps), new ArrayList<>(texts), ruling, new ArrayList<>(said)};
    }

    int image() {
        image = whole(world, steps, texts, ruling, said);
        return world.day;
    }

    @SuppressWarnings("unchecked")
    int back() {
        Object[] whole = whole((World) image[0], (List<?>) image[1], (List<?>) image[2], (Integer) image[3], (List<?>) image[4]);
        world = (World) whole[0];
        steps = (List<World>) whole[1];
        texts = (List<Law>) whole[2];
        ruling = (Integer) whole[3];
        said = (List<int[]>) whole[4];
        return world.day;
    }

    int about(int what) {
        switch (what) {
            case 0: return texts.size();
            case 1: return ruling;
            case 2: return steps.size();
            case 3: return said.size();
            case 4: return tape.length;
            case 5: return world.goes;
            case 6: return world.yet.size();
            default: return -2;
        }
    }
}
