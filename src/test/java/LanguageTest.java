import java.io.IOException;
import java.lang.reflect.Constructor;
import java.lang.reflect.Executable;
import java.lang.reflect.Field;
import java.lang.reflect.Method;
import java.lang.reflect.Modifier;
import java.nio.charset.StandardCharsets;
import java.nio.file.Files;
import java.nio.file.Path;
import java.util.ArrayList;
import java.util.List;
import java.util.TreeSet;
import java.util.regex.Matcher;
import java.util.regex.Pattern;

/** What of LANGUAGE.md shows in the names of the class, its types and the words of its source. */
public final class LanguageTest {
    private static final String SOURCE = "src/main/java/QuarrelSales.java";
    // where LANGUAGE.md says "some" there is a little more room
    private static final int MOST_CLASSES = 15;
    private static final int MOST_FIELDS = 24;
    private static final int MOST_PARAMETERS = 7;
    private static final int MOST_LINES = 70;

    /** A rule, what it leaves no room for, and what of this it does. */
    private static final String[][] WORDS = {
        {"0 no package line", "(?m)^\\s*package\\b.*$", "$^"},
        {"4 the library", "(?m)^\\s*import\\b.*$", "\\s*import java\\.util\\.(ArrayList|List|Iterator|Arrays|NoSuchElementException);\\s*"},
        {"4 the library", "\\b(Math|Integer|Long)\\.\\w*Exact\\b", "$^"},
        {"4 the library", "\\bMath\\.(random|sqrt|pow|floor|ceil|round|log|exp|sin|cos)\\b", "$^"},
        {"4 the library", "\\bSystem\\.\\w+", "System\\.arraycopy"},
        {"2 no lambda", "(?m)^.*->.*$", ".*\\b(case|default)\\b.*"},
        {"2 no method reference", "\\w*::\\w*", "$^"},
        {"3 types", "\\b(var|Object|Long|Short|Byte|Character|Boolean|Double|Float|Map|HashMap|Set|HashSet|Optional)\\b\\W?",
            "Long\\."},
        {"6 exceptions", "\\b(finally|synchronized|assert|Throwable|Error|getMessage|NullPointerException"
            + "|ArrayIndexOutOfBoundsException|ClassCastException|NegativeArraySizeException|ArrayStoreException)\\b", "$^"},
        {"6 exceptions", "\\bthrow\\b(?!s)[^;]*;", "throw new \\w+\\((\"[^\"]*\")?\\);"},
        {"13 no threads, no odd members", "\\b(Thread|volatile|transient|native|protected|strictfp)\\b", "$^"}};

    private static int wrong = 0;

    private static void hold(boolean holds, String what) {
        if (!holds) {
            wrong++;
            System.out.println("does not hold: " + what);
        }
    }

    private static void words(String code) {
        for (String[] rule : WORDS) {
            Matcher found = Pattern.compile(rule[1]).matcher(code);
            while (found.find()) {
                hold(found.group().matches(rule[2]), "rule " + rule[0] + ": " + found.group().trim());
            }
        }
    }

    /** The source without its comments; texts, too, keep no more than their marks if told so. */
    private static String bare(String source, boolean alsoTexts) {
        Matcher found = Pattern.compile("(?s)/\\*.*?\\*/|//[^\n]*|\"(\\\\.|[^\"\\\\])*\"|'(\\\\.|[^'\\\\])'").matcher(source);
        return found.replaceAll(m -> {
            char mark = m.group().charAt(0);
            String kept = mark == '/' ? "" : alsoTexts ? mark + " " + mark : m.group();
            return Matcher.quoteReplacement(kept);
        });
    }

    /** A method ends with the first line that is as far in as its head and holds its bracket alone. */
    private static void lengths(String source) {
        String[] lines = source.split("\n");
        Pattern head = Pattern.compile("( +)[\\w<>\\[\\], ]+\\([^;]*\\{");
        for (int k = 0; k < lines.length; k++) {
            Matcher found = head.matcher(lines[k]);
            if (!found.matches() || found.group(1).length() > 8 || lines[k].matches(" *(if|for|while|switch|do|else|try)\\b.*")) {
                continue;
            }
            int end = k;
            while (end < lines.length && !lines[end].equals(found.group(1) + "}")) {
                end++;
            }
            hold(end - k < MOST_LINES, "rule 11: line " + (k + 1) + " begins a method of " + (end - k + 1) + " lines");
        }
    }

    private static List<Class<?>> classes() {
        List<Class<?>> all = new ArrayList<>();
        all.add(QuarrelSales.class);
        for (int k = 0; k < all.size(); k++) {
            all.addAll(List.of(all.get(k).getDeclaredClasses()));
        }
        return all;
    }

    private static boolean isOfLanguage(Class<?> type) {
        if (type.isArray()) {
            Class<?> of = type.getComponentType();
            return of.isArray() ? of.getComponentType().isPrimitive() : isOfLanguage(of);
        }
        return type.isPrimitive() || type.getName().startsWith("QuarrelSales") || List.of("String", "StringBuilder", "Integer",
            "List", "ArrayList", "Iterator", "Object").contains(type.getSimpleName());
    }

    private static void fields(Class<?> in) {
        int own = 0;
        for (Field f : in.getDeclaredFields()) {
            boolean isStatic = Modifier.isStatic(f.getModifiers());
            if (f.isSynthetic()) {
                continue;
            }
            own += isStatic ? 0 : 1;
            hold(!isStatic || Modifier.isFinal(f.getModifiers()), "rule 5: " + f + " is final");
            hold(isOfLanguage(f.getType()), "rule 3: " + f);
        }
        hold(own <= MOST_FIELDS, "rule 11: " + in + " has " + own + " fields");
    }

    private static void parameters(Executable e) {
        hold(e.isSynthetic() || e.getParameterCount() <= MOST_PARAMETERS, "rule 11: parameters of " + e);
        for (Class<?> type : e.getParameterTypes()) {
            hold(e.isSynthetic() || isOfLanguage(type), "rule 3: " + e);
        }
    }

    private static void members(Class<?> in) {
        for (Method m : in.getDeclaredMethods()) {
            parameters(m);
            hold(!Modifier.isSynchronized(m.getModifiers()) && !Modifier.isNative(m.getModifiers()), "rule 6: " + m);
        }
        for (Constructor<?> c : in.getDeclaredConstructors()) {
            parameters(c);
        }
        fields(in);
        boolean isFace = in == QuarrelSales.class;
        hold(isFace || !Modifier.isPublic(in.getModifiers()) && !Modifier.isProtected(in.getModifiers()), "rule 1: " + in);
    }

    private static void names() {
        TreeSet<String> face = new TreeSet<>();
        for (Method m : QuarrelSales.class.getDeclaredMethods()) {
            if (Modifier.isPublic(m.getModifiers())) {
                face.add(m.getName());
            }
        }
        for (Method m : QuarrelSales.class.getDeclaredMethods()) {
            hold(!Modifier.isPrivate(m.getModifiers()) || !face.contains(m.getName()), "rule 1: " + m + " bears a name of the face");
        }
    }

    public static void main(String[] args) throws IOException {
        String source = Files.readString(Path.of(SOURCE), StandardCharsets.UTF_8);
        hold(bare(source, false).chars().allMatch(c -> c < 128), "rule 4: signs of 1 to 127");
        words(bare(source, true));
        lengths(source);
        List<Class<?>> all = classes();
        hold(all.size() <= MOST_CLASSES, "rule 11: there are " + all.size() + " classes");
        for (Class<?> in : all) {
            members(in);
        }
        names();
        System.out.println(wrong == 0 ? "the language is kept to" : wrong + " do not hold");
        if (wrong != 0) {
            System.exit(1);
        }
    }
}
