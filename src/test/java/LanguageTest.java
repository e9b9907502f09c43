import java.io.IOException;
import java.lang.reflect.Constructor;
import java.lang.reflect.Field;
import java.lang.reflect.Method;
import java.lang.reflect.Modifier;
import java.nio.file.Files;
import java.nio.file.Path;
import java.util.ArrayList;
import java.util.List;
import java.util.TreeSet;
import java.util.regex.Matcher;
import java.util.regex.Pattern;

/** The rules of ../shared/LANGUAGE.md, as far as they can be read off the source and the class. */
public final class LanguageTest {
    private static final Check check = new Check("LanguageTest");

    private static final String[] FACE = {
        "int row(int,int)", "int lay(int,int,int)", "int at(int,int)", "int tear(int)",
        "int copy(int,int,int,int,int)", "int mean(int)", "int text(int,int)", "int put(int,int,int)",
        "int fault(int)", "int north(int)", "int man(int,int)", "int mark(int,int)", "int sun(int)",
        "int right(int)", "int day()", "int shade(int,int)", "int snow(int,int)", "int undo(int)", "int now()",
        "int keep(int)", "int on(int)", "int bulk(int,int)", "int gone(int)", "int votes(int)",
        "int carried(int)", "int days(int)", "int widow()", "int heir(int,int)", "int guard(int,int,int)",
        "int bribe(int,int,int)", "int carry(int,int)", "int census(int)", "int counted(int)",
        "int fits(int,int)", "int kinds(int,int)", "int rights(int)", "int game(int)", "int first(int)",
        "int odds(int,int,int)", "int mid(int,int,int)", "int lots(int,int,int)", "int asked()",
        "long upper()", "long lower()", "int count(int)", "int finding()", "int findings(int)", "long digest()"};

    public static void main(String[] args) throws Exception {
        face();
        constants();
        namesInside();
        words();
        methodsAreShort();
        check.end();
    }

    private static void face() {
        check.due("(rule 1) the class", SnowCitizens.class.getModifiers(), Modifier.PUBLIC | Modifier.FINAL);
        TreeSet<String> want = new TreeSet<>(List.of(FACE));
        TreeSet<String> got = new TreeSet<>();
        for (Method method : SnowCitizens.class.getDeclaredMethods()) {
            if (!Modifier.isPrivate(method.getModifiers())) {
                String all = method.toString().replace("SnowCitizens.", "");
                got.add(all.replace("public ", ""));
            }
        }
        check.due("(rule 1) the methods: " + got, got.equals(want) ? 1 : 0, 1);
        Constructor<?>[] makers = SnowCitizens.class.getDeclaredConstructors();
        check.due("(rule 1) one constructor", makers.length, 1);
        check.due("(rule 1) the constructor", makers[0].getModifiers(), Modifier.PUBLIC);
    }

    private static void constants() throws IllegalAccessException {
        StringBuilder got = new StringBuilder();
        for (Field field : SnowCitizens.class.getDeclaredFields()) {
            int is = field.getModifiers();
            if (!Modifier.isPrivate(is)) {
                check.due("(rule 1) " + field, is, Modifier.PUBLIC | Modifier.STATIC | Modifier.FINAL);
                got.append(field.getName()).append(field.getInt(null)).append(' ');
            }
            check.due("(rule 5) " + field, Modifier.isStatic(is) && !Modifier.isFinal(is) ? 1 : 0, 0);
        }
        String want = "BAD-1 FULL-2 FINDING-3 STATE-4 SPENT-6 NONE-9 ";
        check.due("(rule 1) the constants: " + got, got.toString().equals(want) ? 1 : 0, 1);
    }

    private static void namesInside() {
        TreeSet<String> open = new TreeSet<>();
        List<Class<?>> all = new ArrayList<>(List.of(SnowCitizens.class.getDeclaredClasses()));
        for (Method method : SnowCitizens.class.getDeclaredMethods()) {
            if (Modifier.isPublic(method.getModifiers())) {
                open.add(method.getName());
            }
        }
        check.due("(rule 11) few classes", all.size() <= 11 ? 1 : 0, 1);
        all.add(SnowCitizens.class);
        for (Class<?> one : all) {
            int fields = 0;
            for (Field field : one.getDeclaredFields()) {
                fields += Modifier.isStatic(field.getModifiers()) ? 0 : 1;
            }
            check.due("(rule 11) few fields in " + one, fields <= 20 ? 1 : 0, 1);
            boolean inside = one != SnowCitizens.class;
            check.due("(rule 2) " + one, inside && !Modifier.isStatic(one.getModifiers()) ? 1 : 0, 0);
            for (Method method : one.getDeclaredMethods()) {
                boolean hidden = inside || Modifier.isPrivate(method.getModifiers());
                check.due("(rule 1) " + method, hidden && open.contains(method.getName()) ? 1 : 0, 0);
                check.due("(rule 11) " + method, method.getParameterCount() <= 7 ? 1 : 0, 1);
            }
        }
    }

    private static String source() throws IOException {
        return Files.readString(Path.of("src/main/java/SnowCitizens.java"));
    }

    private static void words() throws IOException {
        String text = source();
        check.due("(rule 3) plain signs", text.chars().filter(c -> c > 126).count(), 0);
        String code = text.replaceAll("(?s)/\\*.*?\\*/", "").replaceAll("//[^\n]*", "");
        String[] none = {
            "\\b(throw|throws|try|catch|finally|synchronized|assert|import|package|native|volatile|var)\\b",
            "->", "::", "\\b(equals|hashCode|toString)\\b", "\\bwhile\\s*\\(true\\)", "for\\s*\\(;;",
            "\\b(Thread|Random|Object|Exception|Error|Class|Runnable|Scanner|File)\\b", "Exact\\b", "@"};
        for (String word : none) {
            Matcher matcher = Pattern.compile(word).matcher(code);
            check.due("(rules 4, 6, 9) no " + word, matcher.find() ? 1 : 0, 0);
        }
        Matcher library = Pattern.compile("\\b(System|Math|Integer|Long|Arrays)\\.(\\w+)").matcher(code);
        while (library.find()) {
            boolean fine = List.of("System.arraycopy", "Math.max", "Math.min", "Math.abs", "Integer.bitCount")
                .contains(library.group());
            check.due("(rule 4) " + library.group(), fine ? 1 : 0, 1);
        }
        // Rule 12: rows are made by constructors alone, so that no call makes objects.
        Matcher made = Pattern.compile("\n *([^\n]*\\bnew\\b[^\n]*)").matcher(code);
        while (made.find()) {
            String line = made.group(1);
            boolean field = line.contains("final ") && line.contains(" = new ");
            boolean maker = line.matches("(rows\\[r\\]|texts\\[t\\]|kept\\[k\\]) = new \\w+\\(\\);");
            check.due("(rule 12) " + line, field || maker ? 1 : 0, 1);
        }
    }

    private static void methodsAreShort() throws IOException {
        int begun = 0;
        int line = 0;
        for (String text : source().split("\n")) {
            line++;
            if (text.matches("( {4}| {8})\\S.*\\) \\{")) {
                begun = line;
            } else if (text.matches("( {4}| {8})\\}") && begun > 0) {
                check.due("(rule 11) the method that ends in line " + line, line - begun < 60 ? 1 : 0, 1);
                begun = 0;
            }
        }
        check.due("(rule 11) lines were read", line > 500 ? 1 : 0, 1);
    }
}
