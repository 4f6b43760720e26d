import java.lang.reflect.Field;
import java.lang.reflect.Method;
import java.lang.reflect.Modifier;
import java.nio.file.Files;
import java.nio.file.Path;
import java.util.Set;
import java.util.TreeSet;
import java.util.regex.Matcher;
import java.util.regex.Pattern;

/** What of LANGUAGE.md a machine can look at: the face, the words that may not stand in the source, sizes. */
public final class LanguageTest {
    private static final String FACE = "back(int) clear() count(int) desk() grey(int,int,int) keep(int) must(int) "
        + "odds(int,int) puts(int,int,int) task(int,int) tightens(int) type(int) undo() why(int,int,int) wrap(int)";
    private static final String[] NOT = {"throw", "throws", "try", "catch", "synchronized", "assert", "import",
        "package", "protected", "native", "volatile", "transient", "hashCode", "toString", "Exact", "\\bObject\\b",
        "->", "::", "System\\.(?!arraycopy)", "Thread", "Random", "float", "double", "\\bvar\\b"};

    private final Check check = new Check();

    private void face() {
        Set<String> found = new TreeSet<>();
        Set<String> names = new TreeSet<>();
        for (Method m : WindowDesk.class.getDeclaredMethods()) {
            if (Modifier.isPublic(m.getModifiers())) {
                String kinds = "";
                for (Class<?> kind : m.getParameterTypes()) {
                    kinds += (kinds.isEmpty() ? "" : ",") + kind.getName();
                }
                found.add(m.getName() + "(" + kinds + ")");
                names.add(m.getName());
            }
        }
        check.due("the face is " + found + ": as the document's", String.join(" ", found).equals(FACE) ? 1 : 0, 1);
        members(WindowDesk.class, names);
        for (Field f : WindowDesk.class.getDeclaredFields()) {
            boolean named = Set.of("BAD", "STATE", "FULL", "NONE").contains(f.getName());
            check.due(f + " is public", Modifier.isPublic(f.getModifiers()) ? 1 : 0, named ? 1 : 0);
            check.due(f + " is private", Modifier.isPrivate(f.getModifiers()) ? 1 : 0, named ? 0 : 1);
        }
        check.due("the class is final", Modifier.isFinal(WindowDesk.class.getModifiers()) ? 1 : 0, 1);
        Class<?>[] inside = WindowDesk.class.getDeclaredClasses();
        check.due("classes are at most twelve", inside.length < 12 ? 1 : 0, 1);
        for (Class<?> c : inside) {
            check.due(c + " is static", Modifier.isStatic(c.getModifiers()) ? 1 : 0, 1);
            members(c, names);
        }
    }

    private void members(Class<?> c, Set<String> publicNames) {
        int fields = 0;
        for (Field f : c.getDeclaredFields()) {
            boolean fixed = Modifier.isStatic(f.getModifiers());
            check.due(f + " is final if static", !fixed || Modifier.isFinal(f.getModifiers()) ? 1 : 0, 1);
            fields += fixed ? 0 : 1;
        }
        check.due(c + " has at most twenty fields", fields <= 20 ? 1 : 0, 1);
        for (Method m : c.getDeclaredMethods()) {
            check.due(m + " has at most seven parameters", m.getParameterCount() <= 7 ? 1 : 0, 1);
            boolean shown = Modifier.isPublic(m.getModifiers());
            check.due(m + " has a name of its own", !shown && publicNames.contains(m.getName()) ? 0 : 1, 1);
            check.due(m + " is public or private", c != WindowDesk.class || shown
                || Modifier.isPrivate(m.getModifiers()) ? 1 : 0, 1);
        }
    }

    private void words(String source) {
        for (String word : NOT) {
            String asWord = word.matches("[a-zA-Z]+") && !word.equals("Exact") ? "\\b" + word + "\\b" : word;
            Matcher m = Pattern.compile(asWord).matcher(source);
            check.due("'" + word + "' stands in the source", m.find() ? 1 : 0, 0);
        }
    }

    /** 'Ahead of the calls .. the interface says: ---- ..': each heading, then its calls, in the document's order. */
    private void headings(String source) {
        String[] rows = {"// ---- the desk", "type", "clear", "desk", "task", "why", "must", "// ---- what is done", "tightens",
            "puts", "undo", "// ---- what there is", "wrap", "grey", "odds", "// ---- images", "keep", "back", "count"};
        int at = 0;
        for (String row : rows) {
            int next = source.indexOf(row.startsWith("//") ? row + "\n" : "public int " + row + "(", at);
            check.due("'" + row + "' stands in its place", next >= at ? 1 : 0, 1);
            at = Math.max(at, next);
        }
    }

    /** Rows are made with the object, and used again: a call makes none. */
    private void made(String source) {
        for (String row : source.split("\n", -1)) {
            boolean inField = row.matches("\\s+(private )?final .* = new .*;");
            boolean inConstructor = row.matches("\\s+(images\\[image\\]|ring\\[k\\]) = new Windows\\(\\);");
            check.due("'" + row.trim() + "' makes an object in a call",
                row.matches(".*\\bnew\\b.*") && !inField && !inConstructor ? 1 : 0, 0);
        }
    }

    /** A method opens at four or eight blanks and closes at as many. */
    private void lengths(String source) {
        String[] rows = source.split("\n", -1);
        for (int k = 0; k < rows.length; k++) {
            Matcher m = Pattern.compile("^( {4}| {8})[a-zA-Z].*\\) \\{$").matcher(rows[k]);
            if (m.find() && !rows[k].contains(" class ")) {
                int end = k;
                while (end < rows.length && !rows[end].equals(m.group(1) + "}")) {
                    end++;
                }
                check.due(rows[k].trim() + " is short", end - k < 60 ? 1 : 0, 1);
            }
        }
    }

    public static void main(String[] args) throws Exception {
        LanguageTest test = new LanguageTest();
        String source = Files.readString(Path.of("src/main/java/WindowDesk.java"));
        String bare = source.replaceAll("(?s)/\\*.*?\\*/", "").replaceAll("//[^\n]*", "");
        test.face();
        test.headings(source);
        test.words(bare);
        test.lengths(bare);
        test.made(bare);
        test.check.end();
    }
}
