import java.io.IOException;
import java.lang.reflect.Constructor;
import java.lang.reflect.Field;
import java.lang.reflect.Method;
import java.lang.reflect.Modifier;
import java.nio.charset.StandardCharsets;
import java.nio.file.Files;
import java.nio.file.Path;
import java.util.ArrayList;
import java.util.Arrays;
import java.util.HashSet;
import java.util.List;
import java.util.Set;
import java.util.TreeSet;
import java.util.regex.Matcher;
import java.util.regex.Pattern;

/** Whether the class's source keeps to the rules of ../shared/LANGUAGE.md that can be seen from outside. */
public final class LanguageTest {
    private static final Exam exam = new Exam();
    private static final String FACE = "int feed(int,int,int,int,int) int end(int) int octet(int) int list() int put(int)"
        + " int cut() int raise(int) int append(int) int finish() int join(int,int,int) int undo() int keep(int)"
        + " int same(int) int number() int rank() int word(int,int) int value(int) int first(int) int state()"
        + " int arc(int,int,int) int about(int,int) int range(int) int near(int,int) int like(int) int best(int)"
        + " int pieces(int) int pack() int unpack() int count(int)";

    public static void main(String[] args) throws IOException {
        String source = Files.readString(Path.of("src/main/java/NumberWords.java"), StandardCharsets.ISO_8859_1);
        String code = source.replaceAll("(?s)/\\*.*?\\*/", "").replaceAll("//[^\n]*", "");
        face();
        classes();
        words(source, code);
        methods(code);
        exam.close("LanguageTest");
    }

    private static void face() {
        Class<?> face = NumberWords.class;
        exam.holds("public and final", Modifier.isPublic(face.getModifiers()) && Modifier.isFinal(face.getModifiers()));
        Set<String> due = new TreeSet<>(Arrays.asList(FACE.split(" (?=int )")));
        Set<String> open = new TreeSet<>();
        Set<String> publicNames = new HashSet<>();
        Set<String> privateNames = new HashSet<>();
        for (Method method : face.getDeclaredMethods()) {
            List<String> types = new ArrayList<>();
            for (Class<?> type : method.getParameterTypes()) {
                types.add(type.getName());
            }
            String name = method.getReturnType() + " " + method.getName() + "(" + String.join(",", types) + ")";
            if (Modifier.isPrivate(method.getModifiers())) {
                privateNames.add(method.getName());
            } else {
                exam.holds(name + " is of the instance", method.getModifiers() == Modifier.PUBLIC);
                open.add(name);
                publicNames.add(method.getName());
            }
        }
        exam.holds("the public methods are " + open, open.equals(due));
        for (Class<?> inner : face.getDeclaredClasses()) {
            for (Method method : inner.getDeclaredMethods()) {
                privateNames.add(method.getName());
            }
        }
        privateNames.retainAll(publicNames);
        exam.holds("private methods with names of public ones: " + privateNames, privateNames.isEmpty());
        for (Field field : face.getDeclaredFields()) {
            boolean isNone = field.getName().equals("NONE");
            exam.holds(field + " is private, but for NONE", Modifier.isPrivate(field.getModifiers()) != isNone);
        }
        for (Constructor<?> constructor : face.getDeclaredConstructors()) {
            exam.holds("one constructor", Modifier.isPublic(constructor.getModifiers())
                    && constructor.getParameterCount() == 0);
        }
    }

    private static void classes() {
        List<Class<?>> all = new ArrayList<>(List.of(NumberWords.class.getDeclaredClasses()));
        exam.holds("twelve classes at most", all.size() < 12);
        for (Class<?> inner : all) {
            exam.holds(inner + " is static", Modifier.isStatic(inner.getModifiers()));
            exam.holds(inner + " is not public", !Modifier.isPublic(inner.getModifiers()));
            exam.holds(inner + " has none of its own", inner.getDeclaredClasses().length == 0);
        }
        all.add(NumberWords.class);
        for (Class<?> one : all) {
            int fields = 0;
            for (Field field : one.getDeclaredFields()) {
                boolean isStatic = Modifier.isStatic(field.getModifiers());
                fields += isStatic ? 0 : 1;
                exam.holds(field + " is final, if static", !isStatic || Modifier.isFinal(field.getModifiers()));
            }
            exam.holds(one + " has twenty fields at most", fields <= 20);
        }
    }

    private static void words(String source, String code) {
        String[] forbidden = {"throw", "throws", "try", "catch", "finally", "synchronized", "assert", "instanceof",
            "volatile", "transient", "native", "strictfp", "var", "yield", "package", "String", "StringBuilder",
            "Object", "System.out", "Thread", "Random", "equals", "hashCode", "toString", "double", "float"};
        for (String word : forbidden) {
            exam.holds("without " + word, !Pattern.compile("\\b" + Pattern.quote(word) + "\\b").matcher(code).find());
        }
        exam.holds("no lambda, no method reference", !code.contains("->") && !code.contains("::"));
        exam.holds("no loop without a bound", !code.matches("(?s).*(while \\(true\\)|for \\([^;]*; ?;).*"));
        for (int i = 0; i < source.length(); i++) {
            if (source.charAt(i) > 126 || source.charAt(i) < 32 && source.charAt(i) != '\n') {
                exam.holds("sign " + i + " is 32 to 126", false);
            }
        }
        Matcher imports = Pattern.compile("import ([^;]*);").matcher(code);
        while (imports.find()) {
            exam.holds("import " + imports.group(1), imports.group(1).equals("java.util.Arrays"));
        }
        Set<String> library = new TreeSet<>();
        Matcher calls = Pattern.compile("\\b(Arrays|System|Math|Integer|Long)\\.(\\w+)").matcher(code);
        while (calls.find()) {
            library.add(calls.group());
        }
        // rule 4 lists functions of Integer, Long and Math, but no constant of theirs
        library.removeAll(Set.of("Arrays.fill", "System.arraycopy", "Math.min", "Math.max"));
        exam.holds("no more of the library: " + library, library.isEmpty());
        exam.holds("no object made in a method but the constructors: new stands in fields and constructors alone",
                !Pattern.compile("(?m)^ {8,}(?!private)(?!.*\\[\\w+\\] = new Book\\(\\);).*\\bnew\\b").matcher(code)
                        .find());
    }

    private static void methods(String code) {
        Matcher head = Pattern.compile("(?m)^( +)(?:public|private)(?: static)? [\\w\\[\\]]+(?: \\w+)?\\(([^)]*)\\) \\{$")
                .matcher(code);
        int found = 0;
        while (head.find()) {
            found++;
            int end = code.indexOf("\n" + head.group(1) + "}", head.end());
            int lines = (int) code.substring(head.start(), end).chars().filter(sign -> sign == '\n').count() + 1;
            exam.holds(head.group().trim() + " has sixty lines at most", lines <= 60);
            exam.holds(head.group().trim() + " takes seven at most", head.group(2).split(",").length <= 7);
        }
        exam.holds("methods are found", found > 80);
    }
}
