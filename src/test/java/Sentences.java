import java.io.IOException;
import java.nio.file.Files;
import java.nio.file.Path;
import java.util.LinkedHashMap;
import java.util.Map;

/** Tests of sentences: each stands under words of ../shared/DOC.md, and no words there are left over. */
abstract class Sentences extends Asking {
    private static final Path DOCUMENT = Path.of("../shared/DOC.md");
    private static final String NO_TESTS_FOR = "FavourRings|The public face|Not promised";

    /** The sections by their headings; of words that were spoken for, blanks are left in rest. */
    private static final Map<String, String> TEXTS = new LinkedHashMap<>();
    private static final Map<String, StringBuilder> REST = new LinkedHashMap<>();
    private static String section = "";

    static void readDocument() throws IOException {
        if (!Files.exists(DOCUMENT)) {
            System.out.println("the document is not there: its words are not compared");
            return;
        }
        for (String part : Files.readString(DOCUMENT).split("(?m)^#+ ")) {
            String[] headAndText = part.split("\n", 2);
            if (headAndText.length == 2 && !headAndText[0].matches(NO_TESTS_FOR)) {
                String text = plain(headAndText[1].replaceAll("(?m)^- ", ""));
                TEXTS.put(headAndText[0].trim().replaceAll("^(Promise \\d+):.*", "$1"), text);
            }
        }
        TEXTS.forEach((head, text) -> REST.put(head, new StringBuilder(text)));
    }

    private static String plain(String text) {
        return text.replace("`", "").replaceAll("\\s+", " ").trim();
    }

    /** The sentences that follow stand in this section of the document. */
    static void in(String head) {
        section = head;
        askAbout(head);
        if (TEXTS.isEmpty()) {
            return;
        }
        if (!TEXTS.containsKey(head)) {
            isWrong("the document has no such section");
        } else if (head.startsWith("Promise")) {
            speakFor(TEXTS.get(head).substring(0, TEXTS.get(head).indexOf("): ") + 3));
        }
    }

    static void says(String words, Runnable test) {
        askAbout(section + ", \"" + words + "\"");
        speakFor(words);
        test.run();
    }

    /** Words that name no boundary case: what they say is asked under other words. */
    static void defines(String words) {
        askAbout(section + ", \"" + words + "\"");
        speakFor(words);
    }

    private static void speakFor(String words) {
        if (TEXTS.isEmpty()) {
            return;
        }
        String text = TEXTS.getOrDefault(section, "");
        int found = text.indexOf(words);
        if (found < 0) {
            isWrong("the document does not say so");
        }
        while (found >= 0) {
            for (int i = found; i < found + words.length(); i++) {
                REST.get(section).setCharAt(i, ' ');
            }
            found = text.indexOf(words, found + 1);
        }
    }

    static void noWordsLeft() {
        askAbout("");
        REST.forEach((head, rest) -> {
            if (rest.toString().matches(".*\\w.*")) {
                isWrong(head + ": no test stands for: " + plain(rest.toString()));
            }
        });
    }
}
