import java.io.IOException;
import java.lang.reflect.Method;
import java.lang.reflect.Modifier;
import java.nio.file.Files;
import java.nio.file.Path;
import java.util.HashSet;
import java.util.Random;
import java.util.Set;
import java.util.regex.Matcher;
import java.util.regex.Pattern;

/** What can be seen of ../shared/LANGUAGE.md from the source and the face, and that no call ever throws. */
public final class LanguageTest {
    private static final Check check = new Check();
    private static final Random random = new Random(7);

    public static void main(String[] args) throws Exception {
        words();
        face();
        sizes();
        signsOfTexts();
        objectsAreMadeByConstructors();
        anyArguments();
        check.end();
    }

    private static String source() throws IOException {
        String text = Files.readString(Path.of("src/main/java/SacredHens.java"));
        return text.replaceAll("(?s)/\\*.*?\\*/", "").replaceAll("//.*", "");
    }

    private static void words() throws IOException {
        String text = source();
        String[] banned = {"\\bthrow", "\\btry\\b", "\\bcatch\\b", "\\bsynchronized\\b", "\\bassert\\b", "->", "::", "\\bimport\\b",
            "\\bpackage\\b", "\\bprotected\\b", "Exact\\b", "\\bfloat\\b", "\\bdouble\\b", "\"\\s*\\+", "\\+\\s*\"", "\\bvolatile\\b", "@"};
        for (String word : banned) {
            check.due("how often " + word + " stands in the source", Pattern.compile(word).matcher(text).results().count(), 0);
        }
        Matcher library = Pattern.compile("\\b([A-Z][A-Za-z]*)\\.([a-z]\\w*)\\(").matcher(text);
        while (library.find()) {
            boolean known = Set.of("Math.max", "Math.min", "Integer.bitCount", "Integer.compare", "System.arraycopy")
                .contains(library.group(1) + "." + library.group(2));
            check.due(library.group() + " is listed", known ? 1 : 0, 1);
        }
    }

    private static void face() {
        Set<String> names = new HashSet<>();
        for (Method method : SacredHens.class.getDeclaredMethods()) {
            if (Modifier.isPublic(method.getModifiers())) {
                names.add(method.getName());
            }
        }
        check.due("methods of the face", names.size(), 76);
        for (Method method : SacredHens.class.getDeclaredMethods()) {
            boolean isPrivate = Modifier.isPrivate(method.getModifiers()) || method.isSynthetic();
            check.due(method.getName() + " is public or private", isPrivate || Modifier.isPublic(method.getModifiers()) ? 1 : 0, 1);
            check.due(method.getName() + " bears a public name", isPrivate && names.contains(method.getName()) ? 1 : 0, 0);
        }
        for (Class<?> inside : SacredHens.class.getDeclaredClasses()) {
            check.due(inside + " is private and static", inside.getModifiers() & (Modifier.PRIVATE | Modifier.STATIC),
                Modifier.PRIVATE | Modifier.STATIC);
            for (Method method : inside.getDeclaredMethods()) {
                check.due(inside + " has " + method.getName(), names.contains(method.getName()) ? 1 : 0, 0);
            }
        }
        check.due("public fields", SacredHens.class.getFields().length, 1);
        check.due("public constructors", SacredHens.class.getDeclaredConstructors().length, 1);
    }

    /** Rule 11: seven parameters, some sixty lines a method, some twelve classes, some twenty fields a class. */
    private static void sizes() throws IOException {
        Class<?>[] inside = SacredHens.class.getDeclaredClasses();
        check.due("at most twelve classes", inside.length + 1 <= 12 ? 1 : 0, 1);
        Class<?>[] all = java.util.Arrays.copyOf(inside, inside.length + 1);
        all[inside.length] = SacredHens.class;
        for (Class<?> one : all) {
            long fields = java.util.Arrays.stream(one.getDeclaredFields()).filter(f -> !Modifier.isStatic(f.getModifiers())).count();
            check.due(one + " has at most twenty fields", fields <= 20 ? 1 : 0, 1);
            for (java.lang.reflect.Field field : one.getDeclaredFields()) {
                boolean isFixed = !Modifier.isStatic(field.getModifiers()) || Modifier.isFinal(field.getModifiers());
                check.due(field + " is final, if it is static", isFixed ? 1 : 0, 1);
            }
            for (Method method : one.getDeclaredMethods()) {
                check.due(method + " has at most seven parameters", method.getParameterCount() <= 7 ? 1 : 0, 1);
            }
        }
        Matcher method = Pattern.compile("(?m)^( +)(?:\\w+ )*[\\w\\[\\]]+ ?\\w*\\([^;{}]*\\) \\{\\n((?s:.*?))^\\1\\}").matcher(source());
        int found = 0;
        while (method.find()) {
            found++;
            check.due("sixty lines at most from " + method.group(0).split("\n")[0], method.group(2).lines().count() <= 60 ? 1 : 0, 1);
        }
        check.due("the methods were found", found > 100 ? 1 : 0, 1);
    }

    /** Rules 3 and 4: constants of text hold signs 1 to 127 alone. */
    private static void signsOfTexts() throws IOException {
        for (char sign : Files.readString(Path.of("src/main/java/SacredHens.java")).toCharArray()) {
            if (sign > 127 || sign < 32 && sign != '\n') {
                check.due("sign " + (int) sign + " in the source", 1, 0);
            }
        }
    }

    /** Rule 12 is kept most plainly where no call makes anything. */
    private static void objectsAreMadeByConstructors() throws IOException {
        for (String line : source().split("\n")) {
            boolean isField = line.matches("\\s*(private )?(final )?[\\w\\[\\]]+ \\w+ = new .*;");
            boolean isOfConstructor = line.contains("slots[slot] = new Row()") || line.contains("images[k] = new Camp()");
            check.due("an object made by:" + line, line.contains("new ") && !isField && !isOfConstructor ? 1 : 0, 0);
        }
    }

    private static void anyArguments() throws Exception {
        Method[] methods = SacredHens.class.getMethods();
        java.util.Arrays.sort(methods, java.util.Comparator.comparing(Method::toString));
        for (int round = 0; round < 400; round++) {
            SacredHens x = new SacredHens();
            if (round % 8 != 0) {
                Check.tell(x, "camp days " + (1 + random.nextInt(14)) + " hunger " + random.nextInt(10) + " greed " + (1 + random.nextInt(9))
                    + " odds 7; augur of 0 from 0 to 0; augur of 1 from 0 to 0; mark 0;"
                    + "bill of 0 worth 5; bill of 1 worth 6; bill of 0 worth 7 after 0;" + "bill of 0 worth 9 after 2;".repeat(random.nextInt(6)));
            }
            for (int call = 0; call < 512; call++) {
                callOne(x, methods[random.nextInt(methods.length)]);
            }
        }
    }

    private static void callOne(SacredHens x, Method method) {
        if (method.getDeclaringClass() != SacredHens.class) {
            return;
        }
        Object[] arguments = new Object[method.getParameterCount()];
        for (int i = 0; i < arguments.length; i++) {
            arguments[i] = method.getParameterTypes()[i] == long.class ? (Object) (long) number() : (Object) number();
        }
        // Most camps told at random are none, and then little could be asked.
        if (method.getName().equals("camp") && random.nextInt(20) != 0) {
            return;
        }
        try {
            method.invoke(x, arguments);
        } catch (ReflectiveOperationException thrown) {
            System.out.println(method + java.util.Arrays.toString(arguments) + " threw " + thrown.getCause());
            check.due("calls that throw", 1, 0);
        }
    }

    private static int number() {
        int[] far = {-1, 14, 60, 61, 100, Integer.MAX_VALUE, Integer.MIN_VALUE, 2000000000, 2000000001};
        switch (random.nextInt(12)) {
            case 0: return far[random.nextInt(far.length)];
            case 1: return random.nextInt();
            case 2: return random.nextInt(61);
            default: return random.nextInt(4);
        }
    }
}
