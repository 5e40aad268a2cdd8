import java.lang.management.ManagementFactory;
import java.lang.reflect.Constructor;
import java.lang.reflect.Field;
import java.lang.reflect.Method;
import java.lang.reflect.Modifier;
import java.nio.file.Files;
import java.nio.file.Path;
import java.util.ArrayList;
import java.util.Arrays;
import java.util.HashSet;
import java.util.List;
import java.util.Set;
import java.util.TreeSet;
import java.util.regex.Matcher;
import java.util.regex.Pattern;

/** What of ../shared/LANGUAGE.md and of the document's face can be seen from the source's words and the class. */
public final class LanguageTest {
    private static final String[] FACE = {
        "dish int int int", "dishIs int int", "become int int", "as int int", "serve int int", "season int int",
        "rules", "feed long int", "text int", "untell int", "law int int int int", "meal int", "meals int int",
        "loose int", "seed int", "then int int int", "gone int int", "needs int", "clears int int int int",
        "brings int int", "odds int", "fits int int", "voice int int int", "body int", "sheet int int int",
        "put int int int", "move int int int int int", "serves int", "judge int", "image", "restore", "tell int",
        "check", "count int", "told int"};
    private static final String[] FORBIDDEN = {
        "import", "package", "throw", "throws", "try", "catch", "finally", "synchronized", "assert", "native", "transient",
        "volatile", "float", "double", "protected", "yield", "var", "Object", "hashCode", "toString", "getClass", "Exception"};
    private static final Set<String> LIBRARY = Set.of("System.arraycopy", "Math.max", "Math.min", "Math.abs", "Integer.bitCount");

    private static int wrong = 0;

    public static void main(String[] args) throws Exception {
        String source = withoutCommentsAndLiterals(Files.readString(Path.of("src/main/java/LeftoverRule.java")));
        theWords(source);
        theLibrary(source);
        theMethods(source);
        theFace();
        theClasses();
        noCallMakesAnObject();
        System.out.println(wrong == 0 ? "the language is kept to" : wrong + " breaches of the language");
        if (wrong != 0) {
            System.exit(1);
        }
    }

    private static void need(boolean so, String what) {
        if (!so) {
            wrong++;
            System.out.println("breach: " + what);
        }
    }

    private static String withoutCommentsAndLiterals(String source) {
        return source.replaceAll("(?s)/\\*.*?\\*/", " ").replaceAll("//[^\n]*", " ")
            .replaceAll("\"(\\\\.|[^\"\\\\])*\"", "\"\"").replaceAll("'(\\\\.|[^'\\\\])'", "'x'");
    }

    private static void theWords(String source) {
        for (String word : FORBIDDEN) {
            need(!Pattern.compile("\\b" + word + "\\b").matcher(source).find(), "the word " + word);
        }
        need(!source.contains("->") && !source.contains("::") && !source.contains("@"), "-> or :: or an annotation");
        need(!Pattern.compile("\\bstatic\\s*\\{").matcher(source).find(), "a static initialiser block");
        need(!source.contains("\""), "a text");
        need(!Pattern.compile("\\bwhile\\b").matcher(source).find(), "a while, whose end is not seen from its own lines");
        for (int i = 0; i < source.length(); i++) {
            need(source.charAt(i) < 127, "a sign above 126");
        }
    }

    private static void theLibrary(String source) {
        Matcher call = Pattern.compile("\\b([A-Z]\\w*\\.[a-z]\\w*)\\s*\\(").matcher(source);
        while (call.find()) {
            need(LIBRARY.contains(call.group(1)), "the library's " + call.group(1));
        }
    }

    /** A method stands behind four or eight blanks, and ends with a brace behind as many. */
    private static void theMethods(String source) {
        String[] lines = source.split("\n");
        for (int i = 0; i < lines.length; i++) {
            Matcher head = Pattern.compile("^( {4}| {8})(?!static final class|private static final class)\\S.*\\((.*)\\) \\{$")
                .matcher(lines[i]);
            if (head.find() && !lines[i].contains(" if ") && !lines[i].contains(" for ") && !lines[i].contains(" switch ")) {
                int end = i;
                while (!lines[end].equals(head.group(1) + "}")) {
                    end++;
                }
                need(end - i <= 60, "a long method: " + lines[i].trim());
                need(head.group(2).split(",").length <= 7, "many parameters: " + lines[i].trim());
            }
        }
    }

    private static void theFace() {
        Set<String> want = new TreeSet<>(Arrays.asList(FACE));
        Set<String> got = new TreeSet<>();
        Set<String> publicNames = new HashSet<>();
        for (Method method : LeftoverRule.class.getDeclaredMethods()) {
            if (Modifier.isPublic(method.getModifiers())) {
                StringBuilder is = new StringBuilder(method.getName());
                for (Class<?> parameter : method.getParameterTypes()) {
                    is.append(' ').append(parameter.getName());
                }
                got.add(is.toString());
                publicNames.add(method.getName());
                need(method.getReturnType() == int.class && !Modifier.isStatic(method.getModifiers()), "a public " + is);
            }
        }
        need(got.equals(want), "the face is " + got);
        for (Class<?> type : allClasses()) {
            for (Method method : type.getDeclaredMethods()) {
                if (!Modifier.isPublic(method.getModifiers())) {
                    need(!publicNames.contains(method.getName()), "a method not public with a public one's name: " + method);
                    need(type != LeftoverRule.class || Modifier.isPrivate(method.getModifiers()), "visible: " + method);
                }
            }
        }
        Constructor<?>[] made = LeftoverRule.class.getDeclaredConstructors();
        need(made.length == 1 && Modifier.isPublic(made[0].getModifiers()) && made[0].getParameterCount() == 0, "the constructor");
        int modifiers = LeftoverRule.class.getModifiers();
        need(Modifier.isPublic(modifiers) && Modifier.isFinal(modifiers), "the class is public and final");
    }

    private static List<Class<?>> allClasses() {
        List<Class<?>> all = new ArrayList<>(List.of(LeftoverRule.class));
        all.addAll(Arrays.asList(LeftoverRule.class.getDeclaredClasses()));
        return all;
    }

    private static void theClasses() {
        need(allClasses().size() <= 12, "many classes");
        for (Class<?> type : allClasses()) {
            int fields = 0;
            for (Field field : type.getDeclaredFields()) {
                boolean isStatic = Modifier.isStatic(field.getModifiers());
                fields += isStatic ? 0 : 1;
                need(!isStatic || Modifier.isFinal(field.getModifiers()), "a static field that is not final: " + field);
                need(type != LeftoverRule.class || Modifier.isPrivate(field.getModifiers()), "visible: " + field);
            }
            need(fields <= 20, "many fields in " + type);
            need(type == LeftoverRule.class || Modifier.isStatic(type.getModifiers()), "an inner class: " + type);
            need(type.getDeclaredClasses().length == 0 || type == LeftoverRule.class, "classes inside " + type);
        }
    }

    /** All calls of a run live in one room, so what is made is made by the constructor. */
    private static void noCallMakesAnObject() {
        com.sun.management.ThreadMXBean room = (com.sun.management.ThreadMXBean) ManagementFactory.getThreadMXBean();
        LeftoverRule x = new LeftoverRule();
        everyCall(x);
        long before = room.getThreadAllocatedBytes(Thread.currentThread().getId());
        for (int i = 0; i < 10; i++) {
            everyCall(x);
        }
        long made = room.getThreadAllocatedBytes(Thread.currentThread().getId()) - before;
        need(made < 4096, "ten rounds of every call made " + made + " bytes");
    }

    private static void everyCall(LeftoverRule x) {
        x.dish(41, 50, 3);
        x.dishIs(0, 7);
        x.become(0, 22);
        x.as(0, 2);
        x.serve(0, 90);
        x.season(0, 4);
        x.rules();
        x.feed(0x29632B7328L, 5);
        x.text(0);
        x.feed(0x723D66L, 3);
        x.text(1);
        x.law(1, 1, 2, 3);
        x.meal(1);
        x.meals(2, 1);
        x.loose(2);
        x.seed(4);
        x.then(9, 1, 0);
        x.gone(0, 1);
        x.needs(9);
        x.clears(0, 3, 5, 1);
        x.brings(9, 0);
        x.odds(0);
        x.sheet(0, 8, 2);
        x.put(0, 1, 9);
        x.fits(0, 0);
        x.move(0, 0, 0, 1, 1);
        x.serves(0);
        x.judge(0);
        x.voice(0, 3, 9);
        x.body(0);
        x.image();
        x.restore();
        x.tell(4);
        x.check();
        x.count(3);
        x.told(1);
        x.untell(0);
        x.untell(1);
    }
}
