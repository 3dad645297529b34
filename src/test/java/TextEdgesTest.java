import java.util.List;

/** Promises 2 to 4 and the section on the text: every sentence that names an edge of it. */
public final class TextEdgesTest {
    private static final List<String> TOKENS = List.of("whole", "bits", "sites", "bound", "limit", "x", "wholes", "bit",
        ";", "0", "1", "2", "3", "4", "5", "6", "7", "9", "10", "11", "03", "00", "04294967299", "4294967299", "-", "W",
        "\t", "\n", ",", "<", ":", "/", "`", "{", "\u0000", "\u00a0", "\u00ff", "");

    public static void main(String[] args) {
        oneHundredBytes();
        aTextOf100BytesIsRead();
        aFaultAtTheLastByteAndBehindIt();
        theEmptyText();
        clearing();
        afterTellsTheTextIsEmpty();
        tokensThatCannotStand();
        numbersInTheirRanges();
        numbersThatAreTooLong();
        itemsThatOccurTooOften();
        fourKeysAtMost();
        textsThatEndTooEarly();
        bytesThatBeginNoToken();
        lettersAndDigits();
        wordsThatAreAlmostItems();
        blanks();
        theFirstFaultCounts();
        whatTheTextDoesNotGive();
        everythingBeginsAnew();
        aFaultChangesNothing();
        Check.finish();
    }

    private static void answers(String text, int want) {
        SideVersions x = new SideVersions();
        Check.type(x, text);
        String shown = "'" + text + "'";
        Check.due("tells() of " + shown, x.tells(), want);
        Check.due("count(5) after " + shown, x.count(5), want < 0 ? text.length() : 0);
        Check.due("count(1) after " + shown, x.count(1), want < 0 ? 0 : keysOf(text));
    }

    private static void fault(String text, int place) {
        answers(text, -10 - place);
    }

    private static int keysOf(String text) {
        return text.split("whole|bits", -1).length - 1;
    }

    private static int itemsOf(String text) {
        return text.split(";", -1).length - 1;
    }

    private static void oneHundredBytes() {
        Check.at("promise 2: FULL if the text has 100 bytes");
        SideVersions x = new SideVersions();
        for (int i = 1; i <= 100; i++) {
            Check.due("type(59), the " + i + "th", x.type(59), i);
        }
        for (int letter : new int[] {0, 59, 255}) {
            Check.due("type(" + letter + ") behind 100 bytes", x.type(letter), Check.FULL);
        }
        Check.due("count(5)", x.count(5), 100);
        Check.due("clear()", x.clear(), 100);
        for (int i = 1; i <= 100; i++) {
            Check.due("type(59) anew, the " + i + "th", x.type(59), i);
        }
        Check.due("type(59) anew, the 101st", x.type(59), Check.FULL);
    }

    private static void aTextOf100BytesIsRead() {
        Check.at("a text of 100 bytes is read to its end");
        String items = "sites 4;bound 6;limit 1;whole;bits;whole;bits;";
        String rest = " ".repeat(100 - items.length());
        for (int place : new int[] {0, 5, 7, 8, items.indexOf("bits"), items.length() - 1, items.length()}) {
            String text = items.substring(0, place) + rest + items.substring(place);
            SideVersions x = new SideVersions();
            Check.type(x, text);
            Check.due("count(5)", x.count(5), 100);
            Check.due("type(33) is refused", x.type(33), Check.FULL);
            Check.due("tells() of '" + text + "'", x.tells(), 7);
            long[] counts = {4, 4, 6, 1, 0, 0};
            for (int what = 0; what < counts.length; what++) {
                Check.due("count(" + what + ") then", x.count(what), counts[what]);
            }
            Check.due("type(33) then", x.type(33), 1);
        }
    }

    private static void aFaultAtTheLastByteAndBehindIt() {
        Check.at("the fault of a text of 100 bytes");
        fault(" ".repeat(99) + "?", 99);
        fault(" ".repeat(99) + ";", 99);
        fault(" ".repeat(99) + "7", 99);
        fault(" ".repeat(99) + "w", 99);
        fault(" ".repeat(95) + "whole", 100);
        fault(" ".repeat(94) + "whole ", 100);
        fault(" ".repeat(93) + "whole;b", 99);
        fault(" ".repeat(93) + "sites 4", 100);
        fault(" ".repeat(93) + "sites 5", 99);
        fault(" ".repeat(92) + "sites 44", 98);
        fault("sites " + "4".repeat(94), 6);
        fault("z".repeat(100), 0);
        answers(" ".repeat(100), 0);
        answers(" ".repeat(94) + "whole;", 1);
    }

    private static void theEmptyText() {
        Check.at("the text consists of any number of items, also none");
        answers("", 0);
        answers(" ", 0);
        SideVersions x = Check.store("sites 2;bound 1;limit 1;bits;");
        Check.due("tells() of the empty text", x.tells(), 0);
        long[] counts = {3, 0, 4, 4, 0, 0};
        for (int what = 0; what < counts.length; what++) {
            Check.due("count(" + what + ") then", x.count(what), counts[what]);
        }
    }

    private static void clearing() {
        Check.at("promise 3: the length that it had");
        for (int length : new int[] {0, 1, 2, 99, 100}) {
            SideVersions x = Check.store("bits;");
            Check.type(x, "b".repeat(length));
            Check.due("clear() of " + length, x.clear(), length);
            Check.due("count(5) then", x.count(5), 0);
            Check.due("clear() again", x.clear(), 0);
            Check.due("the keys stay", x.count(1), 1);
            Check.due("type(98) then", x.type(98), 1);
        }
        SideVersions y = new SideVersions();
        Check.type(y, "whole;bits");
        y.clear();
        Check.type(y, "bits;");
        Check.due("what was cleared is not read", y.tells(), 1);
        Check.due("tally(0, 0)", y.tally(0, 0), 1);
    }

    private static void afterTellsTheTextIsEmpty() {
        Check.at("promise 4: the text becomes empty");
        SideVersions x = new SideVersions();
        Check.type(x, "whole;bits;");
        Check.due("tells()", x.tells(), 2);
        Check.due("count(5)", x.count(5), 0);
        Check.due("clear()", x.clear(), 0);
        Check.due("type(119)", x.type(119), 1);
        Check.due("tells() of w", x.tells(), -10);
        Check.due("count(5) after a fault", x.count(5), 1);
        Check.due("tells() of w again", x.tells(), -10);
        Check.type(x, "hole;");
        Check.due("tells() when the word is whole", x.tells(), 1);
    }

    /** A text that may go on with any of the tokens that are named, or end if ends is true. */
    private static void mayGoOn(String text, boolean ends, String... tokens) {
        for (String token : TOKENS) {
            String all = text + " " + token;
            if (token.isEmpty()) {
                answers(all, ends ? itemsOf(all) : -10 - all.length());
            } else if (!List.of(tokens).contains(token)) {
                fault(all, text.length() + 1);
                fault(all + " ; ?", text.length() + 1);
                fault(all + ";bits;", text.length() + 1);
            } else if (token.equals(";")) {
                answers(all, itemsOf(all));
            } else {
                fault(all, all.length());
            }
        }
    }

    private static void tokensThatCannotStand() {
        Check.at("the fault is the first byte of the first token that cannot stand there");
        mayGoOn("", true, "whole", "bits", "sites", "bound", "limit");
        mayGoOn("whole", false, ";");
        mayGoOn("bits", false, ";");
        mayGoOn("sites", false, "2", "3", "4");
        mayGoOn("bound", false, "1", "2", "3", "4", "5", "6");
        mayGoOn("limit", false, "1", "2", "3", "4");
        mayGoOn("sites 2", false, ";");
        mayGoOn("bound 6", false, ";");
        mayGoOn("limit 1", false, ";");
        mayGoOn("whole;", true, "whole", "bits", "sites", "bound", "limit");
        mayGoOn("sites 4;", true, "whole", "bits", "bound", "limit");
        mayGoOn("bound 1;", true, "whole", "bits", "sites", "limit");
        mayGoOn("limit 4;", true, "whole", "bits", "sites", "bound");
        mayGoOn("bits;whole;bits;", true, "whole", "bits", "sites", "bound", "limit");
        mayGoOn("bits;whole;bits;whole;", true, "sites", "bound", "limit");
        mayGoOn("bound 2;sites 3;limit 4;", true, "whole", "bits");
        mayGoOn("bits;bound 2;bits;sites 3;bits;limit 4;bits;", true);
        mayGoOn("bits;bound 2;bits;sites", false, "2", "3", "4");
    }

    private static void numbersInTheirRanges() {
        Check.at("sites N with N from 2 to 4, bound N with N from 1 to 6, limit N with N from 1 to 4");
        for (int n = 0; n <= 9; n++) {
            number("sites", n, 2, 4, 0);
            number("bound", n, 1, 6, 2);
            number("limit", n, 1, 4, 3);
        }
    }

    private static void number(String word, int n, int low, int high, int what) {
        SideVersions x = new SideVersions();
        Check.type(x, word + " " + n + ";");
        int before = x.count(what);
        boolean may = low <= n && n <= high;
        Check.due("tells() of " + word + " " + n, x.tells(), may ? 1 : -16);
        Check.due("count(" + what + ") after " + word + " " + n, x.count(what), may ? n : before);
    }

    private static void numbersThatAreTooLong() {
        Check.at("a number above 9 or with a leading 0 and more than one digit");
        String[] numbers = {"10", "12", "20", "22", "33", "99", "100", "00", "000", "01", "02", "03", "002", "0000004",
            "258", "259", "65538", "65539", "2147483649", "2147483650", "4294967297", "4294967298", "4294967299",
            "18446744073709551617", "18446744073709551618", "18446744073709551619", "340282366920938463463374607431768211459"};
        for (String word : List.of("sites", "bound", "limit")) {
            for (String number : numbers) {
                fault(word + " " + number + ";", 6);
                fault(word + number + ";", 5);
                fault("whole;" + word + "   " + number, 14);
            }
        }
    }

    private static void itemsThatOccurTooOften() {
        Check.at("each of them at most once");
        for (String item : List.of("sites 3;", "bound 3;", "limit 3;")) {
            answers(item, 1);
            fault(item + item, 8);
            fault(item + " " + item, 9);
            fault(item + "whole;" + item, 14);
            fault(item + item.substring(0, 5), 8);
            fault(item + item.replace('3', '2'), 8);
            fault(item + item.replace('3', '9'), 8);
        }
        answers("sites 3;bound 3;limit 3;", 3);
        fault("sites 3;bound 3;limit 3;limit 3;", 24);
        fault("sites 3;bound 3;limit 3;bound 3;", 24);
        fault("sites 3;bound 3;limit 3;sites 3;", 24);
    }

    private static void fourKeysAtMost() {
        Check.at("whole or bits for the next key, at most four in all");
        for (int pattern = 0; pattern < 16; pattern++) {
            StringBuilder text = new StringBuilder();
            for (int key = 0; key < 4; key++) {
                text.append((pattern >> key & 1) == 0 ? "whole;" : "bits;");
                answers(text.toString(), key + 1);
            }
            SideVersions x = Check.store(text.toString());
            for (int key = 0; key < 4; key++) {
                Check.due("tally(" + key + ", 0) after " + text, x.tally(key, 0), pattern >> key & 1);
            }
            Check.due("tally(4, 0)", x.tally(4, 0), Check.BAD);
            fault(text + "whole;", text.length());
            fault(text + "bits;", text.length());
            fault(text + "  bits", text.length() + 2);
            fault(text + "sites 2; whole;", text.length() + 9);
        }
    }

    private static void textsThatEndTooEarly() {
        Check.at("the length of the text if it ends too early");
        for (String text : List.of("whole", "bits", "sites", "bound", "limit", "sites 2", "bound 1", "limit 4", "sites2")) {
            for (String before : List.of("", " ", "whole;", "bits; whole ;")) {
                for (String blanks : List.of("", " ", "   ")) {
                    fault(before + text + blanks, (before + text + blanks).length());
                }
            }
        }
    }

    private static void bytesThatBeginNoToken() {
        Check.at("a byte that begins no token");
        for (int letter = 0; letter <= 255; letter++) {
            boolean begins = letter >= 'a' && letter <= 'z' || letter >= '0' && letter <= '9' || letter == ';' || letter == ' ';
            if (!begins) {
                char sign = (char) letter;
                fault("" + sign, 0);
                fault("  " + sign + "whole;", 2);
                fault("whole" + sign, 5);
                fault("whole" + sign + ";", 5);
                fault("whole;" + sign, 6);
                fault("sites" + sign + "3;", 5);
                fault("sites " + sign, 6);
                fault("sites 3" + sign + ";", 7);
                fault("sites 3;" + sign, 8);
            }
        }
    }

    private static void lettersAndDigits() {
        Check.at("words and numbers go as far as letters and digits follow each other");
        for (char letter = 'a'; letter <= 'z'; letter++) {
            fault("whole" + letter + ";", 0);
            fault(letter + "whole;", 0);
            fault("sites" + letter + " 3;", 0);
            fault("sites 3" + letter, 7);
            fault("sites 3;" + letter, 8);
        }
        for (char digit = '0'; digit <= '9'; digit++) {
            fault("sites 3" + digit + ";", 6);
            fault("whole" + digit + ";", 5);
            fault("whole;" + digit, 6);
            fault("" + digit, 0);
        }
        fault("whole whole;", 6);
        fault("sites 3 3;", 8);
        fault("sites 33;", 6);
        fault("wholewhole;", 0);
    }

    private static void wordsThatAreAlmostItems() {
        Check.at("a word that is no item");
        for (String word : List.of("whole", "bits", "sites", "bound", "limit")) {
            for (int i = 0; i < word.length(); i++) {
                for (char letter : new char[] {(char) (word.charAt(i) - 1), (char) (word.charAt(i) + 1)}) {
                    fault(word.substring(0, i) + letter + word.substring(i + 1) + " 3;", 0);
                }
            }
            fault(word.substring(1) + ";", 0);
            fault(word.substring(0, word.length() - 1) + ";", 0);
            fault(word.toUpperCase() + ";", 0);
            fault(word + word + ";", 0);
        }
    }

    private static void blanks() {
        Check.at("blanks may stand before, between and after tokens");
        String[] tokens = {"sites", "4", ";", "whole", ";", "limit", "1", ";", "bits", ";"};
        for (int blanks = 0; blanks <= 5; blanks++) {
            StringBuilder text = new StringBuilder(" ".repeat(blanks));
            for (String token : tokens) {
                text.append(token).append(" ".repeat(blanks));
            }
            answers(text.toString(), 4);
        }
        for (int gap = 0; gap <= tokens.length; gap++) {
            StringBuilder text = new StringBuilder();
            for (int i = 0; i <= tokens.length; i++) {
                text.append(i == gap ? "  " : "").append(i < tokens.length ? tokens[i] : "");
            }
            answers(text.toString(), 4);
        }
        Check.at("no blank within a word or a number");
        fault("si tes 3;", 0);
        fault("who le;", 0);
        fault("sites 3 4;", 8);
        Check.at("blanks are byte 32 alone");
        for (int letter : new int[] {0, 9, 10, 11, 12, 13, 31, 33, 160}) {
            fault("whole;" + (char) letter + "bits;", 6);
            fault((char) letter + "bits;", 0);
            fault("bits;" + (char) letter, 5);
        }
    }

    private static void theFirstFaultCounts() {
        Check.at("the first token that cannot stand there");
        fault("sites 9;sites 3;?", 6);
        fault("sites 3;sites 9;?", 8);
        fault("? ;", 0);
        fault("whole ? ;", 6);
        fault("whole bits", 6);
        fault("whole;whole;whole;whole;whole", 24);
        fault("whole;whole;whole;whole;sites ? whole;", 30);
        fault("sites 3 sites", 8);
    }

    private static void whatTheTextDoesNotGive() {
        Check.at("promise 4: 3, 4, 4 and none if it does not give them");
        SideVersions x = Check.store("sites 2;bound 1;limit 1;bits;bits;");
        String[] texts = {"sites 4;", "bound 6;", "limit 2;", "whole;"};
        long[][] counts = {{4, 0, 4, 4}, {3, 0, 6, 4}, {3, 0, 4, 2}, {3, 1, 4, 4}};
        for (int i = 0; i < texts.length; i++) {
            Check.type(x, texts[i]);
            Check.due("tells() of " + texts[i], x.tells(), 1);
            for (int what = 0; what <= 3; what++) {
                Check.due("count(" + what + ") after " + texts[i], x.count(what), counts[i][what]);
            }
        }
    }

    /** Writes that are seen, replaced, dropped and merged, with contexts, rules and false siblings. */
    static void fillStore(SideVersions x) {
        Check.type(x, "sites 4;bound 2;limit 1;whole;bits;");
        x.tells();
        for (int site = 0; site < 4; site++) {
            x.writes(site, site, 0, 0, 5L + site);
            x.writes(site, site, 1, 1, 9L + site);
            x.sends(site, 0, 0);
            x.reads(site, 0, site % 2);
            x.writes(site, 0, 0, 0, 1L);
        }
        x.rules(1, 2);
        x.rules(0, 0);
        x.writes(3, 2, 1, 1, 4L);
        x.merges(2, 1);
        x.merges(0, 0);
        for (int client = 0; client < 4; client++) {
            x.reads(client, client, client % 2);
        }
    }

    private static void everythingBeginsAnew() {
        Check.at("promise 4: everything begins anew");
        Twins twins = new Twins(4, 2, 1, 2, 3, 4, 5);
        String[] texts = {"", "whole;", "bits;whole;", "sites 2;limit 2;bits;bits;", "sites 4;bound 2;limit 1;whole;bits;"};
        for (String text : texts) {
            twins.same("tells() of '" + text + "' after other things", x -> {
                fillStore(x);
                Check.type(x, text);
                x.tells();
            }, x -> {
                Check.type(x, text);
                x.tells();
            });
        }
    }

    private static void aFaultChangesNothing() {
        Check.at("promise 4: if it has a fault, nothing changes");
        Twins twins = new Twins(4, 2, 1, 2, 3, 4, 5);
        String[] texts = {"x", "whole", "sites 2;bound 1;limit 4;bits;bits;whole;bits;?", "sites 3;whole;sites 3;", "bound 7;"};
        for (String text : texts) {
            Twins.Run typed = x -> {
                fillStore(x);
                Check.type(x, text);
            };
            twins.same("tells() of '" + text + "'", x -> {
                typed.on(x);
                Check.due("it is a fault", x.tells() <= -10 ? 1 : 0, 1);
            }, typed);
        }
    }
}
