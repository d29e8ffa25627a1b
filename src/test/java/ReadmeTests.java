import java.lang.reflect.Method;
import java.nio.file.Files;
import java.nio.file.Path;
import java.util.regex.Matcher;
import java.util.regex.Pattern;

/** What README.md tells: each call of its example answers as it says there. Runs in the project's directory. */
public final class ReadmeTests extends Asking {
    private static final Pattern CALL = Pattern.compile("(?m)^bank\\.(\\w+)\\((.*)\\); +// (-?\\d+|[A-Z_]+)\\b");

    private static void example(String text) throws ReflectiveOperationException {
        Matcher block = Pattern.compile("(?s)```java\n(.*?)```").matcher(text);
        if (!block.find()) {
            isWrong("there is no example");
            return;
        }
        FavourRings bank = new FavourRings();
        Matcher call = CALL.matcher(block.group(1));
        int calls = 0;
        while (call.find()) {
            due(call.group(), answer(bank, call.group(1), call.group(2)), number(call.group(3)));
            calls++;
        }
        due("calls of the example", calls, block.group(1).split("(?m)^bank\\.").length - 1);
    }

    private static int answer(FavourRings bank, String name, String list) throws ReflectiveOperationException {
        String[] texts = list.isEmpty() ? new String[0] : list.split(", ");
        for (Method method : FavourRings.class.getMethods()) {
            if (method.getName().equals(name) && method.getParameterCount() == texts.length) {
                Object[] arguments = new Object[texts.length];
                for (int i = 0; i < texts.length; i++) {
                    boolean isFlag = method.getParameterTypes()[i] == boolean.class;
                    arguments[i] = isFlag ? (Object) Boolean.valueOf(texts[i]) : (Object) number(texts[i]);
                }
                return (int) method.invoke(bank, arguments);
            }
        }
        isWrong("there is no call " + name);
        return 0;
    }

    private static int number(String text) throws ReflectiveOperationException {
        if (text.startsWith("'")) {
            return text.charAt(1);
        }
        boolean isName = Character.isLetter(text.charAt(0));
        return isName ? FavourRings.class.getField(text).getInt(null) : Integer.parseInt(text);
    }

    private static void face(String text) {
        for (Method method : FavourRings.class.getDeclaredMethods()) {
            boolean isOpen = java.lang.reflect.Modifier.isPublic(method.getModifiers());
            if (isOpen && !Pattern.compile("(?m)^\\|.*`" + method.getName() + "\\(").matcher(text).find()) {
                isWrong("the table has no call " + method.getName());
            }
        }
        for (String name : "INVALID_ARGUMENT NOT_POSSIBLE LIMIT_REACHED NOT_FOUND".split(" ")) {
            if (!text.contains("| `" + name + "` |")) {
                isWrong("the table has no constant " + name);
            }
        }
    }

    public static void main(String[] args) throws Exception {
        askAbout("README.md");
        String text = Files.readString(Path.of("README.md"));
        example(text);
        face(text);
        end();
    }
}
