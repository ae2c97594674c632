import java.io.IOException;
import java.nio.charset.StandardCharsets;
import java.nio.file.Files;
import java.nio.file.Path;

/**
 * Goes along the document from its first line to its last: each sentence comes in its turn, word for word,
 * and behind each at least one answer is due. So no sentence is left out, and none is told otherwise.
 */
final class Walk {
    /** Empty where there is none: then the words can't be compared, and the answers are due all the same. */
    private final String document;
    private int place = 0;

    /** The sentence that answers are due by now, and how many answers there were ahead of it. */
    private String open = "";
    private int askedAhead = 0;

    Walk(Path path) throws IOException {
        document = Files.exists(path) ? bare(Files.readString(path, StandardCharsets.UTF_8)) : "";
        if (document.isEmpty()) {
            System.out.println("there is no document at " + path);
        }
    }

    /** The text without the marks of its form, with one blank between words. */
    private static String bare(String text) {
        return text.replaceAll("(?m)^```.*$", " ").replaceAll("(?m)^#+ ", " ").replace("====", " ")
                .replaceAll("\\s+", " ").trim();
    }

    /** The next sentence, by which the answers are due that are asked behind this. */
    void says(String words) {
        goOver(words);
        open = words;
        askedAhead = Kit.asked();
        Kit.sentence(words);
    }

    /** The next words, which ask for nothing that a call could answer. */
    void tells(String words) {
        goOver(words);
    }

    private void goOver(String words) {
        closeSentence();
        if (document.isEmpty()) {
            return;
        }
        boolean next = document.startsWith(words, place);
        Kit.sentence("");
        Kit.due("the document's next words", next ? words : rest(words.length()), words);
        if (next) {
            place += words.length();
            while (place < document.length() && document.charAt(place) == ' ') {
                place++;
            }
        }
    }

    private void closeSentence() {
        if (!open.isEmpty() && Kit.asked() == askedAhead) {
            Kit.due("answers due by: " + open, 0, 1);
        }
        open = "";
    }

    private String rest(int most) {
        return document.substring(place, Math.min(document.length(), place + most));
    }

    void ends() {
        closeSentence();
        Kit.sentence("");
        Kit.due("what of the document was not gone through", rest(200), "");
    }
}
