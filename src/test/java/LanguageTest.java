import java.nio.charset.StandardCharsets;
import java.nio.file.Files;
import java.nio.file.Path;
import java.util.ArrayList;
import java.util.HashMap;
import java.util.List;
import java.util.Map;
import java.util.TreeSet;
import java.util.regex.Matcher;
import java.util.regex.Pattern;

/** The rules of ../shared/LANGUAGE.md that can be seen in the source's words; run from the project's folder. */
public final class LanguageTest {
    private static final Pattern METHOD = Pattern.compile(
        "^( {4}| {8})(?:(?:public|private|static|final) )*[\\w\\[\\]<>]+ (\\w+)\\(([^)]*)\\) \\{$");
    private static final Pattern CALL = Pattern.compile("(?<!new )\\b(\\w+)\\(");

    private final Map<String, TreeSet<String>> calls = new HashMap<>();
    private final Map<String, Integer> depths = new HashMap<>();

    public static void main(String[] args) throws Exception {
        String source = Files.readString(Path.of("src/main/java/MeshedPages.java"), StandardCharsets.UTF_8);
        for (int i = 0; i < source.length(); i++) {
            Due.holds("a sign of 1 to 127 at " + i, source.charAt(i) > 0 && source.charAt(i) < 128);
        }
        String bare = source.replaceAll("(?s)/\\*.*?\\*/", "").replaceAll("//[^\n]*", "").replaceAll("\"[^\"]*\"", "\"\"");
        for (String word : new String[] {"throw", "throws", "try", "catch", "finally", "synchronized", "assert", "volatile",
                "transient", "native", "strictfp", "protected", "package", "HashMap", "Random", "Thread", "double", "float",
                "Exact", "hashCode", "toString", "equals", "Object", "record", "null", "var", "yield"}) {
            Due.holds("no " + word, !Pattern.compile("\\b" + word + "\\b").matcher(bare).find());
        }
        for (String sign : new String[] {"->", "::", "@", "import static", "\" +", "+ \""}) {
            Due.holds("no " + sign, !bare.contains(sign));
        }
        Matcher imports = Pattern.compile("import ([\\w.]+);").matcher(bare);
        while (imports.find()) {
            Due.holds(imports.group(1), List.of("java.util.Arrays", "java.util.ArrayList", "java.util.List").contains(imports.group(1)));
        }
        Matcher library = Pattern.compile("\\b(System|Arrays|Math|Integer|Long|String)\\.(\\w+)").matcher(bare);
        while (library.find()) {
            Due.holds(library.group(), List.of("System.arraycopy", "Arrays.fill", "Math.max", "Math.min", "Integer.bitCount").contains(library.group()));
        }
        Matcher made = Pattern.compile("^(.*)\\bnew \\w+.*$", Pattern.MULTILINE).matcher(bare);
        while (made.find()) {
            Due.holds("made with the object alone: " + made.group().trim(), made.group(1).contains("final")
                || made.group(1).contains("private") || made.group(1).contains("[i] ="));
        }
        new LanguageTest().lookAtMethods(bare);
        Due.end();
    }

    private void lookAtMethods(String bare) {
        List<String> lines = new ArrayList<>(List.of(bare.split("\n")));
        TreeSet<String> publics = new TreeSet<>();
        TreeSet<String> others = new TreeSet<>();
        for (int i = 0; i < lines.size(); i++) {
            Matcher method = METHOD.matcher(lines.get(i));
            if (!method.matches() || method.group().contains(" new ") || method.group(2).equals("MeshedPages")) {
                continue;
            }
            int end = i;
            while (!lines.get(end).equals(method.group(1) + "}")) {
                end++;
            }
            String name = method.group(2);
            Due.holds(name + " has sixty lines at the most: " + (end - i + 1), end - i + 1 <= 60);
            Due.holds(name + " takes seven arguments at the most", method.group(3).split(",").length <= 7);
            (method.group().contains("public ") ? publics : others).add(name);
            TreeSet<String> called = calls.computeIfAbsent(name, n -> new TreeSet<>());
            for (String line : lines.subList(i + 1, end)) {
                Matcher call = CALL.matcher(line);
                while (call.find()) {
                    called.add(call.group(1));
                }
            }
            i = end;
        }
        Due.holds("methods were found", publics.size() == 49 && others.size() > 50);
        for (String other : others) {
            Due.holds(other + " is no public one's name", !publics.contains(other));
        }
        for (String name : publics) {
            int depth = depth(name, new TreeSet<>());
            Due.holds(name + " goes eight deep at the most: " + depth, depth <= 8);
        }
    }

    /** How deep calls go that are no recursion: what can come back to itself counts once, as all that it can come to. */
    private int depth(String name, TreeSet<String> open) {
        if (!calls.containsKey(name) || open.contains(name)) {
            return 0;
        }
        if (depths.containsKey(name)) {
            return depths.get(name);
        }
        open.add(name);
        TreeSet<String> circle = new TreeSet<>();
        for (String other : calls.keySet()) {
            if (other.equals(name) || (comesTo(name, other) && comesTo(other, name))) {
                circle.add(other);
            }
        }
        int deepest = 0;
        for (String member : circle) {
            for (String called : calls.get(member)) {
                if (!circle.contains(called)) {
                    deepest = Math.max(deepest, depth(called, open));
                }
            }
        }
        open.remove(name);
        depths.put(name, deepest + 1);
        return deepest + 1;
    }

    private boolean comesTo(String from, String to) {
        TreeSet<String> seen = new TreeSet<>();
        List<String> next = new ArrayList<>(calls.get(from));
        while (!next.isEmpty()) {
            String name = next.remove(next.size() - 1);
            if (name.equals(to)) {
                return true;
            }
            if (seen.add(name) && calls.containsKey(name)) {
                next.addAll(calls.get(name));
            }
        }
        return false;
    }
}
