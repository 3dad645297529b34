import java.util.regex.Matcher;
import java.util.regex.Pattern;

/** Many texts of tokens at random, compared with a reading of them by regular expressions. */
public final class TextModelTest {
    private static final String[] PIECES = {"whole;", "bits;", "whole ;", "sites 3;", "sites4;", "bound 6;", "bound 1 ;",
        "limit 2;", " ", "  ", ";", "sites", "bound", "limit", "whole", "bits", "1", "2", "4", "5", "7", "0", "03", "10",
        "x", "?", "W", "\n", "\u00ff"};
    private static final Pattern TOKEN = Pattern.compile("[a-z]+|[0-9]+|;|[^a-z0-9; ]");
    private static final Pattern ITEM = Pattern.compile("(whole|bits|sites [2-4]|bound [1-6]|limit [1-4]) ;");

    private static long state;

    private static int next(int below) {
        state = state * 6364136223846793005L + 1442695040888963407L;
        return (int) ((state >>> 33) % below);
    }

    public static void main(String[] args) {
        Check.at("promise 4, texts at random");
        for (int run = 1; run <= 40000; run++) {
            state = run;
            String text = text();
            Check.due("tells() of '" + text + "'", Check.told(text), due(text));
        }
        Check.finish();
    }

    private static String text() {
        StringBuilder text = new StringBuilder();
        int odd = next(6) + 2;
        for (int pieces = next(14); pieces > 0; pieces--) {
            text.append(PIECES[next(next(odd) > 0 ? 10 : PIECES.length)]);
        }
        return text.length() > 100 ? text.substring(0, 100) : text.toString();
    }

    /** Whether the tokens, with a blank between each two, can be the beginning of a text without fault. */
    private static boolean canBegin(String tokens) {
        Matcher item = ITEM.matcher(tokens);
        String seen = "";
        int keys = 0;
        int at = 0;
        while (item.find(at) && item.start() == at) {
            String word = item.group(1).split(" ")[0];
            boolean isKey = word.equals("whole") || word.equals("bits");
            keys += isKey ? 1 : 0;
            if (keys > 4 || !isKey && seen.contains(word)) {
                return false;
            }
            seen += word;
            at = Math.min(item.end() + 1, tokens.length());
        }
        String rest = tokens.substring(at);
        if (rest.isEmpty()) {
            return true;
        }
        String word = rest.split(" ")[0];
        boolean isKey = word.equals("whole") || word.equals("bits");
        if (isKey ? keys == 4 : seen.contains(word)) {
            return false;
        }
        return rest.matches("whole|bits|sites( [2-4])?|bound( [1-6])?|limit( [1-4])?");
    }

    private static long due(String text) {
        Matcher token = TOKEN.matcher(text);
        String tokens = "";
        int items = 0;
        while (token.find()) {
            tokens += (tokens.isEmpty() ? "" : " ") + token.group();
            items += token.group().equals(";") ? 1 : 0;
            if (!canBegin(tokens)) {
                return -10 - token.start();
            }
        }
        return tokens.isEmpty() || tokens.endsWith(";") ? items : -10 - text.length();
    }
}
