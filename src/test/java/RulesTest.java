import java.io.IOException;
import java.lang.reflect.Field;
import java.lang.reflect.Member;
import java.lang.reflect.Method;
import java.lang.reflect.Modifier;
import java.nio.file.Files;
import java.nio.file.Path;
import java.util.ArrayList;
import java.util.Arrays;
import java.util.List;
import java.util.Set;
import java.util.TreeSet;
import java.util.regex.Matcher;
import java.util.regex.Pattern;

/** The face of the class, and of LANGUAGE.md what can be told from the class and its text. */
public final class RulesTest {
    private static final String FACE = """
        feed(int,int,int,int,int)int
        house(int)int IllegalArgumentException
        fault()int
        count(int)int NoSuchElementException
        person(int,int)int NoSuchElementException
        work(int,int)int NoSuchElementException
        skill(int,int)int NoSuchElementException
        teaching(int,int)int NoSuchElementException
        day(int)int IllegalArgumentException
        does(int)int NoSuchElementException
        most(int)int IllegalArgumentException
        bars(int)int IllegalArgumentException
        tell(int,int)boolean
        judge(int)int IllegalArgumentException
        any(int)int NoSuchElementException
        learn(boolean,int)int NoSuchElementException
        more()int
        worth(int,int)int NoSuchElementException
        looks(int)int IllegalArgumentException
        best(int)int IllegalArgumentException
        often(int,int)int NoSuchElementException IllegalArgumentException
        seldom(int,int)int NoSuchElementException IllegalArgumentException
        begin(int)void
        on(int)int IllegalArgumentException
        week(int,int)int NoSuchElementException
        knows(int)int NoSuchElementException
        image()boolean
        restore()boolean
        """;
    private static final String[] FORBIDDEN = {"->", "::", "catch", "finally", "synchronized", "assert", "Exact(",
        "System.out", "System.err", "import static", "instanceof", "double", "float", "hashCode", "toString",
        "protected", "native", "volatile", "Thread", "Object", "while (true)", "for (;;)"};

    private static int wrong = 0;

    private static void need(boolean right, String what) {
        if (!right) {
            wrong++;
            System.out.println(what);
        }
    }

    private static String signature(Method method) {
        StringBuilder text = new StringBuilder(method.getName()).append('(');
        for (Class<?> type : method.getParameterTypes()) {
            text.append(text.charAt(text.length() - 1) == '(' ? "" : ",").append(type.getSimpleName());
        }
        text.append(')').append(method.getReturnType().getSimpleName());
        for (Class<?> type : method.getExceptionTypes()) {
            text.append(' ').append(type.getSimpleName());
        }
        return text.toString();
    }

    /** The document's own lines of the face are those that are held here against the class. */
    private static void document(Path file) throws IOException {
        Matcher block = Pattern.compile("(?s)## The public face.*?```java\n(.*?)```").matcher(Files.readString(file));
        need(block.find(), "the document has no face");
        Set<String> told = new TreeSet<>();
        for (String line : block.group(1).split("\n")) {
            Matcher method = Pattern.compile(" *public (\\w+) (\\w+)\\((.*?)\\)(?: throws (.*))?;").matcher(line);
            if (method.matches()) {
                String parameters = method.group(3).replaceAll("(\\w+) \\w+(, )?", "$1,").replaceAll(",$", "");
                String thrown = method.group(4) == null ? "" : " " + method.group(4).replace(",", "");
                told.add(method.group(2) + "(" + parameters + ")" + method.group(1) + thrown);
            }
        }
        Set<String> due = new TreeSet<>(Arrays.asList(FACE.strip().split("\n")));
        need(due.equals(told), "the document's face is " + told + ", held is " + due);
    }

    private static void hidden(Member member) {
        need(Modifier.isPrivate(member.getModifiers()) || member.isSynthetic(), member + " isn't private");
    }

    private static void face() throws NoSuchFieldException {
        Set<String> due = new TreeSet<>(Arrays.asList(FACE.strip().split("\n")));
        Set<String> got = new TreeSet<>();
        Set<String> names = new TreeSet<>();
        for (Method method : FullHouse.class.getDeclaredMethods()) {
            if (Modifier.isPublic(method.getModifiers())) {
                got.add(signature(method));
                names.add(method.getName());
            } else {
                hidden(method);
            }
        }
        need(due.equals(got), "the face is " + got + ", due is " + due);
        for (Field field : FullHouse.class.getDeclaredFields()) {
            if (!field.getName().equals("NONE")) {
                hidden(field);
            }
        }
        int none = FullHouse.class.getField("NONE").getModifiers();
        need(Modifier.isPublic(none) && Modifier.isStatic(none) && Modifier.isFinal(none), "NONE");
        need(Modifier.isFinal(FullHouse.class.getModifiers()), "the class isn't final");
        need(FullHouse.class.getConstructors().length == 1, "the constructor");
        need(FullHouse.class.getDeclaredConstructors().length == 1, "more constructors");
        inside(names);
    }

    private static void inside(Set<String> names) {
        List<Class<?>> classes = new ArrayList<>(List.of(FullHouse.class.getDeclaredClasses()));
        for (Class<?> type : classes) {
            int modifiers = type.getModifiers();
            need(Modifier.isStatic(modifiers), type + " isn't static");
            need(!Modifier.isPublic(modifiers) && !Modifier.isProtected(modifiers), type + " is seen");
        }
        need(classes.size() < 12, "too many classes");
        classes.add(FullHouse.class);
        for (Class<?> type : classes) {
            int fields = 0;
            for (Field field : type.getDeclaredFields()) {
                boolean constant = Modifier.isStatic(field.getModifiers());
                fields += constant ? 0 : 1;
                need(!constant || Modifier.isFinal(field.getModifiers()), field + " isn't final");
            }
            need(fields <= 20, type + " has too many fields");
            for (Method method : type.getDeclaredMethods()) {
                need(method.getParameterCount() <= 7, method + " takes too much");
                boolean own = !Modifier.isPublic(method.getModifiers());
                need(!own || !names.contains(method.getName()), method + " bears a name of the face");
            }
        }
    }

    private static String withoutComments(String text) {
        return text.replaceAll("(?s)/\\*.*?\\*/", "").replaceAll("//[^\n]*", "").replaceAll("\"[^\"\n]*\"", "\"\"");
    }

    private static void text(Path file) throws IOException {
        String source = Files.readString(file);
        String code = withoutComments(source);
        for (String word : FORBIDDEN) {
            need(!code.contains(word), "the text has " + word);
        }
        need(source.chars().allMatch(c -> c == 10 || c >= 32 && c < 127), "the text has odd signs");
        Matcher imports = Pattern.compile("import ([\\w.]+);").matcher(code);
        while (imports.find()) {
            need(Set.of("java.util.Arrays", "java.util.NoSuchElementException").contains(imports.group(1)),
                    "import " + imports.group(1));
        }
        for (String line : code.split("\n")) {
            // rows are made with the object alone, so that calls make nothing
            boolean made = line.matches(".*\\bnew\\b.*");
            need(!made || line.matches(" *throw new \\w+\\(\"\"\\);") || line.matches(".*default: throw new \\w+\\(\"\"\\);")
                    || line.matches(" *(private )?(final )?[\\w\\[\\]]+ \\w+ = new [^;]*;"), "makes an object: " + line);
            need(line.length() <= 110, "a long line: " + line);
        }
        lengths(code);
    }

    /** A method stands between its head and the brace at the head's own place. */
    private static void lengths(String code) {
        String[] lines = code.split("\n");
        for (int i = 0; i < lines.length; i++) {
            Matcher head = Pattern.compile("^( {4}| {8})\\S.*\\).* \\{$").matcher(lines[i]);
            if (head.matches() && !lines[i].matches(" *(if|for|while|switch|\\}).*")) {
                int end = i;
                while (end < lines.length && !lines[end].equals(head.group(1) + "}")) {
                    end++;
                }
                need(end - i < 60, "a long method: " + lines[i]);
            }
        }
    }

    public static void main(String[] args) throws IOException, NoSuchFieldException {
        Path root = Path.of(args.length > 0 ? args[0] : ".");
        document(root.resolve("../shared/DOC.md"));
        face();
        text(root.resolve("src/main/java/FullHouse.java"));
        System.exit(wrong == 0 ? 0 : 1);
    }
}
