import java.io.IOException;
import java.lang.reflect.Constructor;
import java.lang.reflect.Field;
import java.lang.reflect.Method;
import java.lang.reflect.Modifier;
import java.nio.file.Files;
import java.nio.file.Path;
import java.util.ArrayList;
import java.util.Arrays;
import java.util.HashSet;
import java.util.List;
import java.util.Random;
import java.util.Set;
import java.util.regex.Matcher;
import java.util.regex.Pattern;

/** The rules of LANGUAGE.md, as far as they can be read off the source, the class, or long runs of it. */
public final class LanguageTest {
    /** Words that rules 2, 6 and 13 leave out, and those of Java that nothing here needs. */
    private static final List<String> FORBIDDEN = List.of(
            "throw", "throws", "try", "catch", "finally", "synchronized", "assert", "volatile", "native",
            "package", "import", "protected", "double", "float", "equals", "hashCode", "toString");
    /** Words that stand ahead of a parenthesis and are no call. */
    private static final Set<String> NO_CALLS = Set.of("if", "for", "while", "switch", "return");

    private static String code;

    public static void main(String[] args) throws IOException {
        Path root = Path.of(args.length > 0 ? args[0] : ".");
        code = withoutComments(Files.readString(root.resolve("src/main/java/LeverHall.java")));
        Check check = new Check();
        check.sentence("Rules 1, 2: classes inside are static, private or package-visible", LanguageTest::classesInside);
        check.sentence("Rules 2, 6, 13: words that are left out", LanguageTest::words);
        check.sentence("Rule 2: no lambda, no method reference, no class without a name", LanguageTest::noHiddenClass);
        check.sentence("Rule 3: types", LanguageTest::types);
        check.sentence("Rule 4: the library: none is used", LanguageTest::library);
        check.sentence("Rule 5: static fields are constants", LanguageTest::staticFields);
        check.sentence("Rule 7: no call may ever throw or fail to end", LanguageTest::neverThrows);
        check.sentence("Rule 11: at most seven parameters", LanguageTest::parameters);
        check.sentence("Rule 11: methods stay short", LanguageTest::methodsStayShort);
        check.sentence("Rule 11: at most twelve classes, of at most twenty fields", LanguageTest::classesAndFields);
        check.sentence("Rule 13: the same calls always give the same answers", LanguageTest::sameAnswers);
        check.end();
    }

    private static String withoutComments(String source) {
        return source.replaceAll("(?s)/\\*.*?\\*/", "").replaceAll("//[^\n]*", "");
    }

    private static List<Class<?>> classes() {
        List<Class<?>> all = new ArrayList<>();
        all.add(LeverHall.class);
        all.addAll(Arrays.asList(LeverHall.class.getDeclaredClasses()));
        return all;
    }

    /** How often a pattern is found in the code. */
    private static int found(String pattern) {
        return (int) Pattern.compile(pattern).matcher(code).results().count();
    }

    private static void classesInside(Check check) {
        check.due("public classes", found("public final class LeverHall"), 1);
        check.due("the word 'public' ahead of a class", found("public\\s[^;({=]*\\b(class|interface|enum|record)\\b"), 1);
        for (Class<?> inside : LeverHall.class.getDeclaredClasses()) {
            check.due(inside + " is static", Modifier.isStatic(inside.getModifiers()) ? 1 : 0, 1);
            check.due(inside + " is public or protected",
                    inside.getModifiers() & (Modifier.PUBLIC | Modifier.PROTECTED), 0);
        }
    }

    private static void words(Check check) {
        for (String word : FORBIDDEN) {
            check.due("the word " + word, found("\\b" + word + "\\b"), 0);
        }
    }

    private static void noHiddenClass(Check check) {
        check.due("->", found("->"), 0);
        check.due("::", found("::"), 0);
        check.due("new X(..) {", found("new\\s+\\w+\\s*\\([^;]*?\\)\\s*\\{"), 0);
        check.due("static {", found("static\\s*\\{"), 0);
    }

    private static void types(Check check) {
        Set<Class<?>> plain = Set.of(int.class, boolean.class, void.class, int[].class, int[][].class);
        Set<Class<?>> own = new HashSet<>(classes());
        for (Class<?> type : classes()) {
            for (Field field : type.getDeclaredFields()) {
                Class<?> element = field.getType().isArray() ? field.getType().getComponentType() : field.getType();
                check.due(field.toString(), plain.contains(field.getType()) || own.contains(element) ? 1 : 0, 1);
            }
            for (Method method : type.getDeclaredMethods()) {
                boolean fine = plain.contains(method.getReturnType()) || own.contains(method.getReturnType());
                for (Class<?> parameter : method.getParameterTypes()) {
                    fine &= plain.contains(parameter) || own.contains(parameter);
                }
                check.due(method.toString(), fine ? 1 : 0, 1);
            }
        }
    }

    private static void library(Check check) {
        Set<String> own = new HashSet<>();
        for (Class<?> type : classes()) {
            own.add(type.getSimpleName());
            for (Method method : type.getDeclaredMethods()) {
                own.add(method.getName());
            }
        }
        Matcher call = Pattern.compile("\\b(\\w+)\\s*\\(").matcher(code);
        while (call.find()) {
            String name = call.group(1);
            check.due("the call of " + name, own.contains(name) || NO_CALLS.contains(name) ? 1 : 0, 1);
        }
        Matcher type = Pattern.compile("\\b[A-Z]\\w*[a-z]\\w*\\b").matcher(code);
        while (type.find()) {
            check.due("the class " + type.group(), own.contains(type.group()) ? 1 : 0, 1);
        }
        check.due("texts", found("\""), 0);
    }

    private static void staticFields(Check check) {
        for (Class<?> type : classes()) {
            for (Field field : type.getDeclaredFields()) {
                if (Modifier.isStatic(field.getModifiers())) {
                    check.due(field + " is final", Modifier.isFinal(field.getModifiers()) ? 1 : 0, 1);
                    check.due(field + " is an int", field.getType() == int.class ? 1 : 0, 1);
                }
            }
        }
    }

    private static void parameters(Check check) {
        for (Class<?> type : classes()) {
            for (Method method : type.getDeclaredMethods()) {
                check.due(method + " has at most 7", method.getParameterCount() <= 7 ? 1 : 0, 1);
            }
            for (Constructor<?> constructor : type.getDeclaredConstructors()) {
                check.due(constructor + " has at most 7", constructor.getParameterCount() <= 7 ? 1 : 0, 1);
            }
        }
    }

    /** A method begins at a line that opens a brace and names parameters, and ends at the brace below it. */
    private static void methodsStayShort(Check check) {
        String[] lines = code.split("\n", -1);
        Pattern head = Pattern.compile("^( +)(public|private)[^=;]*\\([^;]*\\) \\{$");
        for (int i = 0; i < lines.length; i++) {
            Matcher begins = head.matcher(lines[i]);
            if (begins.matches()) {
                int end = i;
                while (end < lines.length && !lines[end].equals(begins.group(1) + "}")) {
                    end++;
                }
                check.due(lines[i].trim() + " has at most 60 lines", end - i < 60 ? 1 : 0, 1);
            }
        }
    }

    private static void classesAndFields(Check check) {
        check.due("at most 12 classes", classes().size() <= 12 ? 1 : 0, 1);
        for (Class<?> type : classes()) {
            long fields = Arrays.stream(type.getDeclaredFields())
                    .filter(field -> !Modifier.isStatic(field.getModifiers())).count();
            check.due(type + " has at most 20 fields", fields <= 20 ? 1 : 0, 1);
        }
    }

    /** Also behind the 512th call, where answers are free: the rule names any state. */
    private static void neverThrows(Check check) {
        int ended = 0;
        for (int seed = 0; seed < 60; seed++) {
            LeverHall hall = seed % 2 == 0 ? new LeverHall() : Halls.furnished();
            Random random = new Random(seed);
            for (int i = 0; i < 3000; i++) {
                anyCall(hall, random);
                ended++;
            }
        }
        check.due("calls that ended", ended, 60 * 3000);
    }

    private static void sameAnswers(Check check) {
        for (int seed = 0; seed < 60; seed++) {
            LeverHall one = new LeverHall();
            LeverHall other = new LeverHall();
            Random forOne = new Random(seed);
            Random forOther = new Random(seed);
            for (int i = 0; i < 512; i++) {
                check.due("call " + i + " of seed " + seed, anyCall(other, forOther), anyCall(one, forOne));
            }
        }
    }

    private static int anyNumber(Random random, int bound) {
        switch (random.nextInt(12)) {
            case 0:
                return random.nextInt();
            case 1:
                return random.nextBoolean() ? Integer.MIN_VALUE : Integer.MAX_VALUE;
            case 2:
                return random.nextBoolean() ? -1 : bound;
            default:
                return random.nextInt(bound);
        }
    }

    private static int anyCall(LeverHall x, Random r) {
        switch (r.nextInt(24)) {
            case 0: return x.fill(anyNumber(r, 10), anyNumber(r, 50));
            case 1: return x.basin(anyNumber(r, 10));
            case 2: return x.gauge(anyNumber(r, 3), anyNumber(r, 7));
            case 3: return x.mark(anyNumber(r, 3), anyNumber(r, 6));
            case 4: return x.copy(anyNumber(r, 20), anyNumber(r, 20));
            case 5: return x.drop(anyNumber(r, 20));
            case 6: case 7: return x.lever(anyNumber(r, 5), anyNumber(r, 4), anyNumber(r, 20));
            case 8: return x.same(anyNumber(r, 20), anyNumber(r, 20));
            case 9: return x.count(anyNumber(r, 20));
            case 10: case 11: case 12: return x.act(anyNumber(r, 20), anyNumber(r, 50));
            case 13: return x.pull(anyNumber(r, 5), anyNumber(r, 50));
            case 14: return x.tick();
            case 15: return x.failed();
            case 16: return x.told(anyNumber(r, 5));
            case 17: return r.nextInt(20) == 0 ? x.clear() : x.told(2);
            default: return x.deed(anyNumber(r, 20), anyNumber(r, 15), anyNumber(r, 5), anyNumber(r, 20), anyNumber(r, 10));
        }
    }
}
