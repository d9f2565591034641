import java.io.IOException;
import java.nio.file.Files;
import java.nio.file.Path;
import java.util.ArrayList;
import java.util.List;

/**
 * The document's sentences in its order, each with runs that show it.
 *
 * They are quoted, and held against the document in the end: so none of it is left out, and none is
 * shown that it does not say.
 */
final class Sentences {
    private static final Path DOCUMENT = Path.of("../shared/DOC.md");

    private final Due due;
    private final List<String> said = new ArrayList<>();
    private String sentence = "";
    private boolean shown = true;

    Sentences(Due due) {
        this.due = due;
    }

    /** The next sentence: what comes behind is to show it. */
    void says(String words) {
        heading(words);
        sentence = words.length() > 70 ? words.substring(0, 70) + " .." : words;
        shown = false;
    }

    /** A heading, or a sentence that asks nothing of the class. */
    void heading(String words) {
        due.holds("'" + sentence + "' is shown", shown);
        said.add(words);
        shown = true;
    }

    void is(String what, long got, long want) {
        shown = true;
        due.is("'" + sentence + "', " + what, got, want);
    }

    void are(String what, int[] got, int... want) {
        is(what + ": how many", got.length, want.length);
        for (int k = 0; k < Math.min(got.length, want.length); k++) {
            is(what + ": " + k, got[k], want[k]);
        }
    }

    /** What "S" says: a state more, and by back() all but the text and how often refused is as it was. */
    void leavesState(SnakeMesh x, Edge.Call call) {
        long before = x.digest();
        int states = x.told(4);
        call.on(x);
        is("a STATE more", x.told(4), states + 1);
        is("A STATE back", x.back(), states);
        is("as it was", x.digest(), before);
    }

    /** Each call on an object of its own, since one is promised for 512 calls only. */
    void refuses(int why, Edge.Made made, Edge.Call... calls) {
        for (int k = 0; k < calls.length; k++) {
            SnakeMesh x = made.make();
            int[] told = Edge.told(x);
            long before = x.digest();
            int counted = SnakeMesh.BAD - why;
            is("call " + k + " is refused", calls[k].on(x), why);
            is("call " + k + " is counted", x.told(counted), told[counted] + 1);
            is("call " + k + " changes nothing else", x.digest() - before, Edge.weight(x, counted));
        }
    }

    /** A new object that has done what a text tells, and whose text is empty again. */
    SnakeMesh by(String text) {
        SnakeMesh x = new SnakeMesh();
        more(x, text);
        return x;
    }

    void more(SnakeMesh x, String text) {
        Due.write(x, text);
        due.holds(text + " can be done", x.does() > 0);
        x.clear();
    }

    int doing(SnakeMesh x, String text) {
        Due.write(x, text);
        return x.does();
    }

    /** Where the document can be read, all of it must have been said, and nothing else. */
    void end() throws IOException {
        heading("");
        if (!Files.isReadable(DOCUMENT)) {
            System.out.println("no " + DOCUMENT + ": what was quoted is not held against it");
            return;
        }
        String left = plain(Files.readString(DOCUMENT).replaceAll("(?m)^```\\w*$", " "));
        for (String words : said) {
            String start = plain(words);
            due.holds("the document goes on with '" + words + "', but '" + left.substring(0, Math.min(90, left.length())) + "'",
                    left.startsWith(start));
            left = left.startsWith(start) ? plain(left.substring(start.length())) : left;
        }
        due.holds("all of the document is said, but '" + left + "'", left.isEmpty());
        System.out.println(said.size() + " headings and sentences");
    }

    private static String plain(String text) {
        return text.replaceAll("\\s+", " ").strip();
    }
}
