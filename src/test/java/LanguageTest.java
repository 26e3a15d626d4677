import java.io.IOException;
import java.lang.reflect.Constructor;
import java.lang.reflect.Field;
import java.lang.reflect.Method;
import java.lang.reflect.Modifier;
import java.nio.file.Files;
import java.nio.file.Path;
import java.util.ArrayList;
import java.util.Arrays;
import java.util.List;
import java.util.Set;
import java.util.TreeSet;
import java.util.regex.Matcher;
import java.util.regex.Pattern;

/** What of ../shared/LANGUAGE.md can be seen by a machine: the face, the words that are not used, sizes. */
public final class LanguageTest {
    private static final String SOURCE = "src/main/java/BoardCrossing.java";
    private static final String[] FACE = {
        "int feed(int,int,int,int,int)", "int end(int)", "int river()", "int fault(int)", "int board(int,int)", "int load(int,int)",
        "int spot(int,int,int)", "int hotter(int)", "int stroke(int,int,boolean)", "int stow(int,int)", "int take(int)",
        "int cool(int,int)", "boolean undo()", "boolean redo()", "int landings(int)", "int drift(int)", "int rows(int)",
        "int coolest(int,int)", "int straight(int,int)", "int widest(int,int)", "int trips(int)", "int stowing()",
        "int meet(int,int)", "int mooring(int)", "int guests(int,int)", "int singe(int)", "int odds(int,int,int)", "int over()",
        "int left()", "int pulled()", "int hottest()", "int law(int)", "int lies(int)", "int passed(int,int,boolean)",
        "int felt(int,int,boolean)", "boolean untell(int)", "int later(int)", "int fits(int)", "int sure(int,int)",
        "int ask(int,int)", "int image(int)", "int back(int)", "int about(int)"};

    private LanguageTest() {
    }

    public static void main(String[] args) throws IOException {
        String source = Files.readString(Path.of(SOURCE));
        String code = withoutTexts(source);
        face();
        words(code);
        sizes(code);
        Check.finish("LanguageTest");
    }

    private static void expect(String what, boolean holds) {
        Check.due(what, true, holds);
    }

    private static String withoutTexts(String source) {
        return source.replaceAll("(?s)/\\*.*?\\*/", "").replaceAll("\"[^\"\n]*\"", "\"\"").replaceAll("'[^'\n]*'", "' '").replaceAll("//[^\n]*", "");
    }

    private static void face() {
        Class<?> c = BoardCrossing.class;
        expect("the class is public and final", Modifier.isPublic(c.getModifiers()) && Modifier.isFinal(c.getModifiers()));
        Set<String> due = new TreeSet<>(Arrays.asList(FACE));
        Set<String> found = new TreeSet<>();
        Set<String> names = new TreeSet<>();
        for (Method m : c.getDeclaredMethods()) {
            if (Modifier.isPublic(m.getModifiers())) {
                found.add(signature(m));
                names.add(m.getName());
            } else {
                expect(m + " is private", Modifier.isPrivate(m.getModifiers()));
            }
        }
        expect("the face is " + due + ", not " + found, due.equals(found));
        expect("43 methods", found.size() == 43);
        for (Field f : c.getDeclaredFields()) {
            expect(f + " is private or NONE", Modifier.isPrivate(f.getModifiers()) || f.getName().equals("NONE"));
        }
        expect("one constructor", c.getDeclaredConstructors().length == 1);
        List<Class<?>> all = new ArrayList<>(Arrays.asList(c.getDeclaredClasses()));
        expect("twelve classes at most", all.size() + 1 <= 12);
        for (Class<?> inner : all) {
            expect(inner + " is static", Modifier.isStatic(inner.getModifiers()));
            expect(inner + " is not public", !Modifier.isPublic(inner.getModifiers()) && !Modifier.isProtected(inner.getModifiers()));
        }
        all.add(c);
        for (Class<?> each : all) {
            members(each, c, names);
        }
    }

    private static String signature(Method m) {
        List<String> types = new ArrayList<>();
        for (Class<?> t : m.getParameterTypes()) {
            types.add(t.getName());
        }
        return m.getReturnType().getName() + " " + m.getName() + "(" + String.join(",", types) + ")";
    }

    private static void members(Class<?> each, Class<?> outer, Set<String> names) {
        int fields = 0;
        for (Field f : each.getDeclaredFields()) {
            boolean isStatic = Modifier.isStatic(f.getModifiers());
            fields += isStatic ? 0 : 1;
            expect(f + " is final if static", !isStatic || Modifier.isFinal(f.getModifiers()));
            boolean constant = f.getType().isPrimitive() || f.getType() == String.class || f.getType().isArray();
            expect(f + " is a constant if static", !isStatic || constant);
        }
        expect(each + " has twenty fields at most, not " + fields, fields <= 20);
        for (Method m : each.getDeclaredMethods()) {
            expect(m + " takes seven at most", m.getParameterCount() <= 7);
            expect(m + " bears a name of its own", each == outer && Modifier.isPublic(m.getModifiers()) || !names.contains(m.getName()));
        }
        for (Constructor<?> k : each.getDeclaredConstructors()) {
            expect(k + " takes seven at most", k.getParameterCount() <= 7);
        }
    }

    private static void words(String code) {
        for (String word : new String[] {"throw", "throws", "try", "catch", "finally", "synchronized", "assert", "protected", "volatile",
            "native", "package", "Random", "Thread", "Object", "hashCode", "toString", "HashMap", "Map", "Set", "double", "float",
            "var", "yield", "record", "goto", "strictfp", "transient"}) {
            expect("no " + word, !Pattern.compile("\\b" + word + "\\b").matcher(code).find());
        }
        expect("no arrow", !code.contains("->"));
        expect("no method reference", !code.contains("::"));
        expect("no Exact", !code.contains("Exact("));
        expect("no text joined by +", !Pattern.compile("\"\\s*\\+|\\+\\s*\"").matcher(code).find());
        expect("no arrays of two dimensions", !code.contains("[][]"));
        expect("signs 1 to 127 alone", code.chars().allMatch(c -> c < 128));
        Matcher imports = Pattern.compile("import ([\\w.]+);").matcher(code);
        while (imports.find()) {
            expect("import of " + imports.group(1), imports.group(1).equals("java.util.Arrays"));
        }
        only(code, "System", "arraycopy");
        only(code, "Arrays", "fill");
        only(code, "Math", "max", "min", "abs");
        only(code, "Integer", "bitCount");
        for (String line : code.split("\n")) {
            boolean made = Pattern.compile("\\bnew\\b").matcher(line).find();
            boolean field = line.matches("\\s+(private |final )+.* = new .*");
            boolean ofConstructor = line.matches("        \\w+ = new .*");
            expect("made in a constructor: " + line.trim(), !made || field || ofConstructor);
        }
    }

    private static void only(String code, String owner, String... functions) {
        Matcher m = Pattern.compile("\\b" + owner + "\\.(\\w+)").matcher(code);
        while (m.find()) {
            expect(m.group(), m.group(1).equals("util") || Arrays.asList(functions).contains(m.group(1)));
        }
    }

    /** Methods as their lines stand: from a line that opens one to the brace as deep. */
    private static void sizes(String code) {
        String[] lines = code.split("\n");
        for (int i = 0; i < lines.length; i++) {
            Matcher opens = Pattern.compile("^(\\s+)[\\w\\[\\] ]+\\(.*\\) \\{$").matcher(lines[i]);
            if (opens.find() && !lines[i].trim().matches("(if|for|while|switch|\\}).*")) {
                int end = i;
                while (end < lines.length && !lines[end].equals(opens.group(1) + "}")) {
                    end++;
                }
                expect("some sixty lines at most: " + lines[i].trim(), end - i <= 60);
            }
        }
    }
}
