import java.lang.reflect.Constructor;
import java.lang.reflect.Field;
import java.lang.reflect.Method;
import java.lang.reflect.Modifier;
import java.nio.file.Files;
import java.nio.file.Path;
import java.util.Set;
import java.util.TreeSet;
import java.util.regex.Matcher;
import java.util.regex.Pattern;

/** What of LANGUAGE.md can be told from the source's words and the class's members. */
public final class LanguageTest {
    private static final Check check = new Check();
    private static final String FACE = "feed back read place lines line run after out same differs bears breaks idle "
        + "harm worst pair mends reached step life soonest ways mean core does sought soughtAt put take see forget "
        + "suspects suspect next most hold restore count";

    public static void main(String[] args) throws Exception {
        words(Files.readString(Path.of("src/main/java/MiceEngine.java")));
        face();
        nested();
        check.end();
    }

    private static void words(String source) {
        check.about("the source");
        for (int i = 0; i < source.length(); i++) {
            if (source.charAt(i) > 126) {
                check.due("a sign above 126 at " + i, source.charAt(i), 0);
            }
        }
        String code = source.replaceAll("(?s)/\\*.*?\\*/", " ").replaceAll("//[^\n]*", " ").replaceAll("\"[^\"]*\"", "\"\"");
        for (String word : new String[] {"\\bimport\\b", "\\bpackage\\b", "\\bthrow\\b", "\\bthrows\\b", "\\btry\\b",
            "\\bcatch\\b", "\\bsynchronized\\b", "\\bassert\\b", "->", "::", "\\binstanceof\\b", "\\bnative\\b",
            "\\bprotected\\b", "\\bequals\\b", "\\bhashCode\\b", "\\btoString\\b", "Exact\\b", "\\bSystem\\b",
            "\\bThread\\b", "\\bRandom\\b", "\\bdouble\\b", "\\bfloat\\b", "\\bvar\\b", "while \\(true\\)",
            "for \\(;;\\)", "static \\{"}) {
            Matcher m = Pattern.compile(word).matcher(code);
            check.due("the word " + word, m.find(), false);
        }
        check.due("public classes", code.split("\\bpublic\\b[^;({]*\\bclass\\b").length, 2);
        check.due("classes", code.split("\\bclass\\b").length - 1 <= 13, true);
        methodsStayShort(code);
        loopsCount(code);
    }

    /** A loop's end must be seen from its own lines: a counter that goes up or down by as much each time. */
    private static void loopsCount(String code) {
        Matcher heads = Pattern.compile("\\bfor \\([^;\n]*;([^;\n]*);(.*)\\) \\{").matcher(code);
        int counted = 0;
        while (heads.find()) {
            check.due("a bound in " + heads.group(), heads.group(1).matches(".* (<|<=|>|>=) .*"), true);
            check.due("a count in " + heads.group(), heads.group(2).trim().matches("\\w+(\\+\\+|--| -= [1-9])"), true);
            counted++;
        }
        check.due("loops that are no such for", code.split("\\b(for|do) ?[({]").length - 1 - counted, 0);
        Matcher whiles = Pattern.compile("\\bwhile \\((\\w+) < (.*)\n(.*)").matcher(code);
        int others = code.split("\\bwhile\\b").length - 1;
        while (whiles.find()) {
            check.due("a count in " + whiles.group(), whiles.group(3).trim().equals(whiles.group(1) + "++;"), true);
            others--;
        }
        check.due("loops that are no such while", others, 0);
    }

    private static void methodsStayShort(String code) {
        String[] lines = code.split("\n");
        int start = -1;
        String end = "";
        for (int i = 0; i < lines.length; i++) {
            if (lines[i].matches(" {4,8}[a-zA-Z].*\\) \\{") && !lines[i].contains(" new ")) {
                start = i;
                end = lines[i].replaceAll("[^ ].*", "}");
                check.due("parameters of " + lines[i].trim(), lines[i].split(",").length <= 7, true);
            }
            if (start >= 0 && lines[i].equals(end)) {
                check.due("length of " + lines[start].trim(), i - start <= 60, true);
                start = -1;
            }
        }
    }

    private static void face() throws Exception {
        check.about("the face");
        check.due("final", Modifier.isFinal(MiceEngine.class.getModifiers()), true);
        Set<String> due = new TreeSet<>(Set.of(FACE.split(" ")));
        Set<String> are = new TreeSet<>();
        for (Method m : MiceEngine.class.getDeclaredMethods()) {
            if (Modifier.isPublic(m.getModifiers())) {
                are.add(m.getName());
                String want = "hold restore".contains(m.getName()) ? "boolean" : "ways mean".contains(m.getName())
                    ? "long" : "int";
                check.due("type of " + m.getName(), m.getReturnType().getName().equals(want), true);
            } else {
                check.due("private " + m.getName(), Modifier.isPrivate(m.getModifiers()), true);
                check.due("no public name " + m.getName(), due.contains(m.getName()), false);
            }
        }
        check.due("public methods", are.equals(due), true);
        for (Constructor<?> c : MiceEngine.class.getDeclaredConstructors()) {
            check.due("constructor", Modifier.isPublic(c.getModifiers()) && c.getParameterCount() == 0, true);
        }
        for (Field f : MiceEngine.class.getDeclaredFields()) {
            check.due("field " + f.getName(), Modifier.isPrivate(f.getModifiers()), !f.getName().equals("NONE"));
        }
        check.due("NONE", MiceEngine.NONE, -1);
    }

    private static void nested() {
        check.about("nested classes");
        Set<String> face = Set.of(FACE.split(" "));
        for (Class<?> c : MiceEngine.class.getDeclaredClasses()) {
            check.due(c.getName() + " static", Modifier.isStatic(c.getModifiers()), true);
            for (Method m : c.getDeclaredMethods()) {
                check.due("no public name " + m.getName(), face.contains(m.getName()), false);
            }
            int fields = 0;
            for (Field f : c.getDeclaredFields()) {
                boolean isStatic = Modifier.isStatic(f.getModifiers());
                fields += isStatic ? 0 : 1;
                check.due("static " + f.getName(), !isStatic || Modifier.isFinal(f.getModifiers()), true);
            }
            check.due("fields of " + c.getName(), fields <= 20, true);
        }
    }
}
