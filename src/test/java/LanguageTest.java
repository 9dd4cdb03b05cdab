import java.io.IOException;
import java.lang.reflect.Field;
import java.lang.reflect.Method;
import java.lang.reflect.Modifier;
import java.nio.file.Files;
import java.nio.file.Path;
import java.util.Set;
import java.util.TreeSet;
import java.util.regex.Matcher;
import java.util.regex.Pattern;

/** What of ../shared/LANGUAGE.md a program can look after: the face, forbidden words, sizes. */
public final class LanguageTest {
    private static final String[] FACE = {
        "int feed(int,int,int,int,int)", "int add(int)", "void clear()", "int reads(int)", "int faultAt(int)",
        "int cost(int)", "int best()", "boolean use(int)", "int about(int)", "int odd(int)", "int breadth(int)",
        "int size(int,int)", "int at(int,int,int)", "int form(int)", "int missing(int)", "int lacks(int)",
        "int costOf(int,int,int)", "int fits(int)", "int doubt(int)", "int parts(int,int,int,int)",
        "long value(int,int)", "int back(int,int,int)", "int key(int)"};
    private static final String[] FORBIDDEN = {
        "\\bthrow\\b", "\\btry\\b", "\\bcatch\\b", "\\bsynchronized\\b", "\\bassert\\b", "->", "::", "Exact\\b",
        "\\bpackage\\b", "\\bprotected\\b", "\\bimport\\s+(?!java\\.util\\.(Arrays|ArrayList|List|Iterator);)",
        "\\b(Random|Thread|Object|Exception|Error|System\\.(?!arraycopy))\\b", "\\bstatic\\s*\\{"};

    private static int wrong = 0;

    public static void main(String[] args) throws IOException {
        checkFace();
        checkWords(bare(Files.readString(Path.of(args.length > 0 ? args[0] : "src/main/java/ColumnReader.java"))));
        int classes = 1;
        checkClass(ColumnReader.class);
        for (Class<?> inside : ColumnReader.class.getDeclaredClasses()) {
            classes++;
            checkClass(inside);
            demand(Modifier.isStatic(inside.getModifiers()), inside + " isn't static");
            demand(!Modifier.isPublic(inside.getModifiers()), inside + " is public");
        }
        demand(classes <= 12, classes + " classes");
        System.out.println(wrong == 0 ? "the language is kept to" : wrong + " rules broken");
        if (wrong != 0) {
            System.exit(1);
        }
    }

    private static void demand(boolean holds, String fault) {
        if (!holds) {
            wrong++;
            System.out.println(fault);
        }
    }

    private static void checkFace() {
        Set<String> due = new TreeSet<>(Set.of(FACE));
        Set<String> found = new TreeSet<>();
        for (Method method : ColumnReader.class.getDeclaredMethods()) {
            if (!Modifier.isPrivate(method.getModifiers())) {
                StringBuilder words = new StringBuilder();
                for (Class<?> type : method.getParameterTypes()) {
                    words.append(words.length() == 0 ? "" : ",").append(type);
                }
                found.add(method.getReturnType() + " " + method.getName() + "(" + words + ")");
            }
        }
        demand(found.equals(due), "the face is " + found);
        for (Field field : ColumnReader.class.getDeclaredFields()) {
            boolean known = Modifier.isPrivate(field.getModifiers()) || field.getName().equals("NONE");
            demand(known, field + " is seen from outside");
        }
        demand(Modifier.isFinal(ColumnReader.class.getModifiers()), "the class isn't final");
        demand(ColumnReader.class.getDeclaredConstructors().length == 1, "more constructors than one");
    }

    private static void checkClass(Class<?> type) {
        int fields = 0;
        for (Field field : type.getDeclaredFields()) {
            boolean still = Modifier.isStatic(field.getModifiers());
            fields += still ? 0 : 1;
            demand(!still || Modifier.isFinal(field.getModifiers()), field + " is static and not final");
        }
        demand(fields <= 20, type + " has " + fields + " fields");
        Set<String> names = new TreeSet<>();
        for (String member : FACE) {
            names.add(member.substring(member.indexOf(' ') + 1, member.indexOf('(')));
        }
        for (Method method : type.getDeclaredMethods()) {
            boolean face = type == ColumnReader.class && Modifier.isPublic(method.getModifiers());
            demand(face || !names.contains(method.getName()), method + " bears a public name");
            demand(method.getParameterCount() <= 7, method + " takes too much");
        }
    }

    private static void checkWords(String source) {
        for (String word : FORBIDDEN) {
            Matcher matcher = Pattern.compile(word).matcher(source);
            demand(!matcher.find(), "the source has what " + word + " forbids");
        }
    }

    /** The source without comments and without what stands in quotes. */
    private static String bare(String source) {
        return source.replaceAll("(?s)/\\*.*?\\*/", " ").replaceAll("//[^\n]*", " ")
            .replaceAll("'(\\\\.|[^'\\\\])'", "0").replaceAll("\"(\\\\.|[^\"\\\\])*\"", "0");
    }
}
