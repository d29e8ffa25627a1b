import java.lang.reflect.Constructor;
import java.lang.reflect.Field;
import java.lang.reflect.Method;
import java.lang.reflect.Modifier;
import java.nio.file.Files;
import java.nio.file.Path;
import java.util.ArrayList;
import java.util.List;
import java.util.Map;
import java.util.TreeMap;
import java.util.TreeSet;
import java.util.regex.Matcher;
import java.util.regex.Pattern;

/** The face, and what can be seen of ../shared/LANGUAGE.md in the program's text. Runs in the project's directory. */
public final class LanguageTests {
    private static final String FACE = "int pupil(); int lend(int, int, int, int); int fulfil(int, int, int, int);"
        + " int guarantee(int, int); int weeks(int); int holiday(boolean); int clear(int); int set(int, int);"
        + " int pupilOf(int, int); int owes(int, int, int); int lot(int, int); int why(int, int); int ring(int, int);"
        + " int amount(int); int ifCleared(int, int); int chain(int, int, int); int deepest(int); int spoilsIn(int);"
        + " int richest(int); int mean(); int count(int); int undo(); int type(int); int clearText(); int fault(int);"
        + " int play()";
    private static final String CONSTANTS = "INVALID_ARGUMENT NOT_POSSIBLE LIMIT_REACHED NOT_FOUND";
    private static int wrong = 0;

    private static void mustBe(boolean isSo, String what) {
        if (!isSo) {
            wrong++;
            System.out.println("not so: " + what);
        }
    }

    private static void face() {
        Class<?> face = FavourRings.class;
        mustBe(Modifier.isPublic(face.getModifiers()) && Modifier.isFinal(face.getModifiers()), "public and final");
        TreeSet<String> due = new TreeSet<>(List.of(FACE.split("; ")));
        TreeSet<String> names = new TreeSet<>();
        TreeSet<String> found = new TreeSet<>();
        for (Method method : face.getDeclaredMethods()) {
            if (Modifier.isPublic(method.getModifiers())) {
                found.add(method.toGenericString().replaceAll("public (\\w+) FavourRings\\.(.*)", "$1 $2")
                    .replace(",", ", "));
                names.add(method.getName());
            }
        }
        mustBe(due.equals(found), "the methods are " + found);
        for (Method method : face.getDeclaredMethods()) {
            boolean isPrivate = Modifier.isPrivate(method.getModifiers());
            mustBe(isPrivate ? !names.contains(method.getName()) : Modifier.isPublic(method.getModifiers()),
                method.getName() + " is private with a name of its own, or public");
        }
        TreeSet<String> fields = new TreeSet<>();
        for (Field field : face.getDeclaredFields()) {
            if (!Modifier.isPrivate(field.getModifiers())) {
                fields.add(field.getName());
            }
            mustBe(!Modifier.isStatic(field.getModifiers()) || Modifier.isFinal(field.getModifiers()),
                field.getName() + " is final");
        }
        mustBe(fields.equals(new TreeSet<>(List.of(CONSTANTS.split(" ")))), "the open fields are " + fields);
        Constructor<?>[] constructors = face.getDeclaredConstructors();
        mustBe(constructors.length == 1 && constructors[0].getParameterCount() == 0
            && Modifier.isPublic(constructors[0].getModifiers()), "one public constructor");
        for (Class<?> inside : face.getDeclaredClasses()) {
            mustBe(Modifier.isStatic(inside.getModifiers()) && Modifier.isPrivate(inside.getModifiers()),
                inside + " is private and static");
            for (Method method : inside.getDeclaredMethods()) {
                mustBe(!names.contains(method.getName()), inside + " has no method " + method.getName());
                mustBe(method.getParameterCount() <= 7, method + " takes seven parameters at most");
            }
        }
        mustBe(face.getDeclaredClasses().length <= 11, "some twelve classes");
    }

    /** The text without comments; signs between quotes are kept. */
    private static String code(String text) {
        return text.replaceAll("(?s)/\\*.*?\\*/", " ").replaceAll("//[^\n]*", " ");
    }

    private static void words(String code) {
        String[] never = {"package", "import", "try", "catch", "throw", "throws", "finally", "synchronized", "assert",
            "native", "transient", "volatile", "protected", "Object", "Class", "System\\.(?!arraycopy)", "->", "::",
            "instanceof", "Math\\.\\w+Exact", "Thread", "Random", "double", "String", "hashCode", "toString",
            "equals", "new int\\[[^\\]]*\\]\\[", "static\\s*\\{", "while\\s*\\(true\\)", "for\\s*\\(;;\\)"};
        for (String word : never) {
            String pattern = word.matches("\\w+") ? "\\b" + word + "\\b" : word;
            mustBe(!Pattern.compile(pattern).matcher(code).find(), "the program is without " + word);
        }
        for (int i = 0; i < code.length(); i++) {
            mustBe(code.charAt(i) < 128, "signs below 128");
        }
        Matcher field = Pattern.compile("static (?!final)(\\w+ \\w+)\\s*[=;]").matcher(code);
        mustBe(!field.find(), "static fields are final");
    }

    /** Arrays are made in constructors alone, so that a run's room does not grow with its calls. */
    private static void room(String code) {
        Matcher made = Pattern.compile("\\bnew\\b").matcher(code);
        int all = 0;
        while (made.find()) {
            all++;
        }
        int inConstructors = 0;
        Matcher constructor = Pattern.compile(
            "\\n( +)(?:public )?(?:FavourRings|Bank|History|Rings|Orders)\\(\\) \\{(.*?)\\n\\1\\}",
            Pattern.DOTALL).matcher(code);
        while (constructor.find()) {
            Matcher inside = Pattern.compile("\\bnew\\b").matcher(constructor.group(2));
            while (inside.find()) {
                inConstructors++;
            }
        }
        mustBe(all == inConstructors, "new stands in constructors alone: " + inConstructors + " of " + all);
    }

    /** An index in brackets stands only where its own function has looked at it. */
    private static void indices(String code) {
        String[] functions = code.split("\\n\\s*\\n");
        for (String function : functions) {
            Matcher index = Pattern.compile("(\\w+)\\[([^\\]]+)\\]").matcher(function);
            while (index.find()) {
                String row = index.group(1);
                if (row.equals("int") || row.equals("Bank")) {
                    continue;
                }
                String place = index.group(2).replace(" - 1", "");
                boolean isLookedAt = function.contains(place + " < " + row + ".length")
                    || function.contains(place + " >= " + row + ".length")
                    || function.contains(place + " >= MAX_LOTS");
                mustBe(isLookedAt, index.group() + " is looked at in " + function);
            }
        }
    }

    private static void lengths(String text) {
        List<Integer> starts = new ArrayList<>();
        String[] lines = text.split("\n");
        for (int i = 0; i < lines.length; i++) {
            mustBe(lines[i].length() <= 120, "line " + (i + 1) + " is short");
            if (lines[i].matches(" +[\\w\\[\\] ]+\\(.*\\) \\{") && !lines[i].matches(" +(if|for|while|switch|else).*")) {
                starts.add(i);
            }
        }
        for (int start : starts) {
            String close = lines[start].replaceAll("\\S.*", "") + "}";
            int end = start;
            while (end < lines.length && !lines[end].equals(close)) {
                end++;
            }
            mustBe(end - start <= 60, "short method at line " + (start + 1));
        }
        mustBe(starts.size() > 50, "methods were found");
    }

    /** Methods by their names, whichever class they stand in: a call of a name is taken for a call of all of it. */
    private static Map<String, String> bodies(String code) {
        Map<String, String> bodies = new TreeMap<>();
        Matcher method = Pattern.compile(
            "(?ms)^( +)(?! )(?:[\\w\\[\\]]+ )*(\\w+)\\([^)]*\\) \\{\\n(.*?)\\n\\1\\}").matcher(code);
        while (method.find()) {
            bodies.merge(method.group(2), method.group(3), String::concat);
        }
        return bodies;
    }

    private static int depth(Map<String, String> bodies, String name, int open) {
        if (open > 20) {
            return 1;
        }
        int deepest = 0;
        Matcher call = Pattern.compile("\\b(\\w+)\\(").matcher(bodies.get(name));
        while (call.find()) {
            if (bodies.containsKey(call.group(1))) {
                deepest = Math.max(deepest, depth(bodies, call.group(1), open + 1));
            }
        }
        return 1 + deepest;
    }

    private static void depths(String code) {
        Map<String, String> bodies = bodies(code);
        mustBe(bodies.size() > 80, "methods were found by name: " + bodies.size());
        for (String name : bodies.keySet()) {
            int depth = depth(bodies, name, 1);
            mustBe(depth <= 8, name + " calls at most eight deep, not " + depth);
        }
    }

    private static void fields() {
        List<Class<?>> classes = new ArrayList<>(List.of(FavourRings.class.getDeclaredClasses()));
        classes.add(FavourRings.class);
        for (Class<?> one : classes) {
            int fields = 0;
            for (Field field : one.getDeclaredFields()) {
                fields += Modifier.isStatic(field.getModifiers()) ? 0 : 1;
            }
            mustBe(fields <= 20, one + " has some twenty fields");
        }
    }

    public static void main(String[] args) throws java.io.IOException {
        String text = Files.readString(Path.of("src/main/java/FavourRings.java"));
        face();
        words(code(text));
        room(code(text));
        indices(code(text));
        lengths(text);
        depths(code(text));
        fields();
        System.out.println(wrong == 0 ? "the face and the text are as due" : wrong + " things are not so");
        if (wrong != 0) {
            System.exit(1);
        }
    }
}
