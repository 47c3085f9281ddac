import java.io.IOException;
import java.nio.file.Files;
import java.nio.file.Path;
import java.util.regex.Matcher;
import java.util.regex.Pattern;

/** What README.md shows: its texts are told, and its answers are those that the program gives. */
public final class ReadmeTest {
    private static final int NONE = SpoonShort.NONE;
    private static final String TABLE = "kinds 3;alike 2;person 1 1 0 0;person 1 2 0 3;jumpy 1;";
    private static final String HEAP = "cards 0 1 2 1 0 0 2;";
    private static final String BOOK = "take 0;hand 0 1;reach 0;";
    private static final String HAND = "hold 0 1;gone 2 2;";
    private static final String FILM = "frame 5;frame 9 0;frame 12 0 1;";

    public static void main(String[] args) throws IOException {
        String readme = Files.readString(Path.of("README.md"));
        SpoonShort x = new SpoonShort();
        String[] texts = {TABLE, HEAP, BOOK, HAND, FILM};
        for (int sort = 0; sort < texts.length; sort++) {
            Check.due("README.md has the text of sort " + sort, readme.contains("\"" + texts[sort] + "\""), true);
            Check.due("sort " + sort, Check.tell(x, sort, texts[sort]), 0);
        }
        answer(readme, "table(0, 5)", x.table(0, 5));
        answer(readme, "round(0, 0, 1)", x.round(0, 0, 1));
        answer(readme, "round(0, 0, 2)", x.round(0, 0, 2));
        answer(readme, "stop(0, 0, 0)", x.stop(0, 0, 0));
        answer(readme, "state(0, 0, 0, 3, 2)", x.state(0, 0, 0, 3, 2));
        answer(readme, "luck(0, 42, 20, 21)", x.luck(0, 42, 20, 21));
        answer(readme, "otherwise(0, 42, 20, 1, 3, NONE, false)", x.otherwise(0, 42, 20, 1, 3, NONE, false));
        answer(readme, "within(0, 0, 2, false)", x.within(0, 0, 2, false));
        answer(readme, "within(0, 0, 2, true)", x.within(0, 0, 2, true));
        answer(readme, "even(0, 0)", x.even(0, 0));
        answer(readme, "film(0, 0, 1)", x.film(0, 0, 1));
        Check.due("text of README.md with a FAULT", Check.tell(x, 1, "cards 13;"), NONE);
        answer(readme, "fault(0)", x.fault(0));
        answer(readme, "fault(1)", x.fault(1));
        Check.finish();
    }

    /** README.md shows a call with its answer behind: x.call(..);  // answer */
    private static void answer(String readme, String call, long got) {
        Matcher m = Pattern.compile(Pattern.quote("x." + call + ";") + " +// (-?[0-9]+)").matcher(readme);
        boolean shown = m.find();
        Check.due("README.md shows " + call, shown, true);
        if (shown) {
            Check.due(call, got, Long.parseLong(m.group(1)));
        }
    }
}
