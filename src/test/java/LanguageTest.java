import java.io.IOException;
import java.lang.reflect.Constructor;
import java.lang.reflect.Field;
import java.lang.reflect.Method;
import java.lang.reflect.Modifier;
import java.nio.file.Files;
import java.nio.file.Path;
import java.util.Arrays;
import java.util.Map;
import java.util.Set;
import java.util.TreeMap;
import java.util.TreeSet;
import java.util.regex.Matcher;
import java.util.regex.Pattern;

/** The face of the document, and those rules of LANGUAGE.md that a machine sees at once. */
public final class LanguageTest {
    private static final String FACE = "back(int) bears(int) best(int,int) cheap(int,int,int) clear() closes(int,int) cold(int,int) "
        + "count(int) day(int) dish(int) eat(int,boolean) end(int) fairest(int,int) fault() feed(long) has(int,int) keep(int) "
        + "lacks(int,boolean,int,int) last(int) lay(int,int,int) may(int,boolean) night() now(int) put(int,int,int) "
        + "read(int,int,int,int) row(int) rule(int) sheet(int,int,int) shortest() small(int,int) supper(int,int) surest(int,int) "
        + "text() thing(int,int) torn()";

    private static final Set<String> LIBRARY = Set.of("min", "max", "floorMod", "arraycopy", "length", "charAt");

    public static void main(String[] args) throws IOException {
        constants();
        face();
        classes();
        source(Files.readString(Path.of("src/main/java/NothingLeft.java")));
        Check.finish("LanguageTest");
    }

    private static void constants() {
        Check.due("BAD", NothingLeft.BAD, -1);
        Check.due("STATE", NothingLeft.STATE, -2);
        Check.due("FULL", NothingLeft.FULL, -3);
        Check.due("NONE", NothingLeft.NONE, -4);
    }

    private static String types(Class<?>[] types) {
        return Arrays.toString(Arrays.stream(types).map(Class::getName).toArray()).replaceAll("[\\[\\] ]", "");
    }

    private static void face() {
        Check.fine("public and final", Modifier.isPublic(NothingLeft.class.getModifiers())
            && Modifier.isFinal(NothingLeft.class.getModifiers()));
        Set<String> names = new TreeSet<>();
        Set<String> open = new TreeSet<>();
        for (Method m : NothingLeft.class.getDeclaredMethods()) {
            if (Modifier.isPublic(m.getModifiers())) {
                open.add(m.getName() + "(" + types(m.getParameterTypes()) + ")");
                names.add(m.getName());
                Check.fine(m + " answers an int and is no static", m.getReturnType() == int.class && !Modifier.isStatic(m.getModifiers()));
            }
        }
        Check.fine("the face is as told: " + open, String.join(" ", open).equals(FACE));
        for (Method m : NothingLeft.class.getDeclaredMethods()) {
            Check.fine(m + " is public or private, not both", Modifier.isPublic(m.getModifiers())
                || Modifier.isPrivate(m.getModifiers()) && !names.contains(m.getName()));
        }
        for (Class<?> inside : NothingLeft.class.getDeclaredClasses()) {
            for (Method m : inside.getDeclaredMethods()) {
                Check.fine(m + " bears a name of the face", !names.contains(m.getName()));
            }
        }
        int shown = 0;
        for (Field f : NothingLeft.class.getDeclaredFields()) {
            shown += Modifier.isPrivate(f.getModifiers()) ? 0 : 1;
        }
        Check.due("constants of the face", shown, 4);
        Constructor<?>[] made = NothingLeft.class.getDeclaredConstructors();
        Check.fine("one constructor", made.length == 1 && Modifier.isPublic(made[0].getModifiers()));
    }

    private static void classes() {
        Class<?>[] inside = NothingLeft.class.getDeclaredClasses();
        Check.fine("at most 12 classes", inside.length < 12);
        classIsSmall(NothingLeft.class);
        for (Class<?> c : inside) {
            Check.fine(c + " is static and not public", Modifier.isStatic(c.getModifiers()) && !Modifier.isPublic(c.getModifiers()));
            classIsSmall(c);
        }
    }

    private static void classIsSmall(Class<?> c) {
        int fields = 0;
        for (Field f : c.getDeclaredFields()) {
            fields += Modifier.isStatic(f.getModifiers()) ? 0 : 1;
            Check.fine(f + " is final, if it is static", !Modifier.isStatic(f.getModifiers()) || Modifier.isFinal(f.getModifiers()));
        }
        Check.fine(c + " has some twenty fields", fields <= 20);
        for (Method m : c.getDeclaredMethods()) {
            Check.fine(m + " has at most seven parameters", m.getParameterCount() <= 7);
        }
    }

    private static void source(String source) {
        Check.fine("signs are 1 to 127", source.chars().allMatch(c -> c > 0 && c < 128));
        String code = source.replaceAll("(?s)/\\*.*?\\*/", "").replaceAll("//[^\n]*", "");
        String[] forbidden = { "throw", "throws", "try", "catch", "finally", "synchronized", "assert", "import", "package", "protected",
            "Object", "Character", "Boolean", "Thread", "Random", "equals", "hashCode", "toString", "System\\.(?!arraycopy)\\w+", "\\w+Exact" };
        for (String word : forbidden) {
            Check.fine("no " + word, !Pattern.compile("\\b" + word + "\\b").matcher(code).find());
        }
        Check.fine("no lambda", !code.contains("->") && !code.contains("::"));
        Check.fine("no joining by +", !Pattern.compile("\"\\s*\\+|\\+\\s*\"").matcher(code).find());
        methodsMakeNothing(code);
        methodsAreShort(source);
        callsAreShallow(code.replaceAll("\"[^\"]*\"|'[^']*'", ""));
        onlyTheLibraryOfTheRules(code);
    }

    /** The room is one for all calls: objects are made by fields alone, as deep as a field of a class inside stands. */
    private static void methodsMakeNothing(String code) {
        boolean inField = false;
        for (String line : code.split("\n")) {
            inField = line.matches(" {4}( {4})?(private )?final .*") || inField && !line.isBlank();
            Check.fine("made by a field: " + line, inField || !Pattern.compile("\\bnew\\b").matcher(line).find());
            inField &= !line.endsWith(";");
        }
    }

    private static void methodsAreShort(String source) {
        int begun = 0, number = 0;
        for (String line : source.split("\n")) {
            number++;
            if (line.matches(" {4}(    )?\\S.*\\) \\{")) {
                begun = number;
            }
            if (line.matches(" {4}(    )?\\}") && begun > 0) {
                Check.fine("the method that ends in line " + number + " is short", number - begun <= 60);
            }
        }
    }

    /** Calls that are no recursion go at most eight deep, the library's own counted. Methods of one name are taken as one. */
    private static void callsAreShallow(String code) {
        Map<String, String> bodies = new TreeMap<>();
        Matcher m = Pattern.compile("(?m)^ {4}(?: {4})?(?:public |private )?(?:static )?(?:int|boolean|void) (\\w+)\\([^)]*\\) \\{").matcher(code);
        while (m.find()) {
            int end = m.end();
            for (int open = 1; open > 0; end++) {
                open += code.charAt(end) == '{' ? 1 : code.charAt(end) == '}' ? -1 : 0;
            }
            bodies.merge(m.group(1), code.substring(m.end(), end), String::concat);
        }
        Check.fine("methods are found", bodies.size() > 100);
        for (String name : LIBRARY) {
            bodies.put(name, "");
        }
        for (String name : bodies.keySet()) {
            int deep = deepest(name, bodies, 0);
            Check.fine(name + " goes " + deep + " deep", deep <= 8);
        }
    }

    private static int deepest(String name, Map<String, String> bodies, int ahead) {
        // No method calls itself by any way: that would go on for ever here.
        if (ahead > 20) {
            return ahead;
        }
        int deepest = 0;
        Matcher m = Pattern.compile("\\b(\\w+)\\(").matcher(bodies.get(name));
        while (m.find()) {
            deepest = bodies.containsKey(m.group(1)) ? Math.max(deepest, deepest(m.group(1), bodies, ahead + 1)) : deepest;
        }
        return deepest + 1;
    }

    /** What of the library is used is a part of what LANGUAGE.md lists. */
    private static void onlyTheLibraryOfTheRules(String code) {
        Matcher m = Pattern.compile("\\b(Math|Integer|Long|Arrays|System|List|String|StringBuilder|ArrayList)\\.(\\w+)|\\b(word)\\.(\\w+)").matcher(code);
        while (m.find()) {
            String used = m.group(2) == null ? m.group(4) : m.group(2);
            Check.fine("used of the library: " + m.group(), LIBRARY.contains(used));
        }
        Check.fine("no doubles, floats", !Pattern.compile("\\b(double|float)\\b").matcher(code).find());
        Check.fine("no arrays of arrays", !code.contains("[][]"));
    }
}
