import java.util.ArrayList;
import java.util.List;

/**
 * Tells whether two runs of calls have led to the same: by all that can be asked then, and by what comes after.
 * The questions are put in parts, each to new objects, since an object answers for 512 calls only.
 */
final class Twins {
    /** Calls on an object, in their order. */
    interface Run {
        void on(SideVersions x);
    }

    /** One call, and its answer. */
    interface Call {
        long on(SideVersions x);
    }

    private static final class Question {
        final String name;
        final Call call;

        Question(String name, Call call) {
            this.name = name;
            this.call = call;
        }
    }

    private static final int PART = 150;

    private final int sites;
    private final int keys;
    private final int[] numbers;
    private final List<Question> questions = new ArrayList<>();
    private final List<Question> sequel = new ArrayList<>();

    /** Asks about so many sites and keys, one more of each, and the writes with these numbers. */
    Twins(int sites, int keys, int... numbers) {
        this.sites = sites;
        this.keys = keys;
        this.numbers = numbers;
        askOfAll();
        for (int key = 0; key <= keys; key++) {
            askOfKey(key);
            for (int site = 0; site <= sites; site++) {
                askOfSite(key, site);
            }
        }
        goOn();
    }

    private void ask(String name, Call call) {
        questions.add(new Question(name, call));
    }

    private void then(String name, Call call) {
        sequel.add(new Question(name, call));
    }

    private void askOfAll() {
        for (int w = 0; w <= 5; w++) {
            int what = w;
            ask("count(" + w + ")", x -> x.count(what));
        }
        for (int c = 0; c < 4; c++) {
            for (int w = -1; w < 8; w++) {
                int client = c, what = w;
                ask("context(" + c + ", " + w + ")", x -> x.context(client, what));
            }
        }
        for (int n = 0; n < 3; n++) {
            int i = n;
            ask("rule(" + n + ", 0)", x -> x.rule(i, 0));
            ask("rule(" + n + ", 1)", x -> x.rule(i, 1));
        }
    }

    private void askOfKey(int key) {
        for (int w = 0; w <= 6; w++) {
            int what = w;
            ask("tally(" + key + ", " + w + ")", x -> x.tally(key, what));
        }
        ask("spread(" + key + ", 0)", x -> x.spread(key, 0));
        ask("spread(" + key + ", 1)", x -> x.spread(key, 1));
    }

    private void askOfSite(int key, int site) {
        ask("behind(" + site + ", " + key + ")", x -> x.behind(site, key));
        for (int o = 0; o < sites; o++) {
            int other = o;
            ask("row(" + site + ", " + key + ", " + o + ")", x -> x.row(site, key, other));
            ask("alike(" + site + ", " + o + ", " + key + ")", x -> x.alike(site, other, key));
        }
        for (int n = 0; n <= 6; n++) {
            for (int w = 0; w <= 3; w++) {
                int i = n, what = w;
                ask("sibling(" + site + ", " + key + ", " + n + ", " + w + ")", x -> x.sibling(site, key, i, what));
            }
        }
        for (int n : numbers) {
            askOfWrite(key, site, n);
        }
    }

    private void askOfWrite(int key, int site, int n) {
        String dot = key + ", " + site + ", " + n;
        for (int w = 0; w <= 7; w++) {
            int what = w;
            ask("write(" + dot + ", " + w + ")", x -> x.write(key, site, n, what));
        }
        for (int a = 0; a < sites; a++) {
            for (int m : numbers) {
                int other = a;
                String covered = "(" + key + ", " + a + ", " + m + ", " + site + ", " + n;
                ask("ahead" + covered + ", 0)", x -> x.ahead(key, other, m, site, n, 0));
                ask("ahead" + covered + ", 1)", x -> x.ahead(key, other, m, site, n, 1));
            }
        }
    }

    /** What is hidden shows in what comes after: the text, the contexts, the rows, the rules, the next stamp. */
    private void goOn() {
        for (int k = 0; k < keys; k++) {
            int key = k;
            for (int s = 0; s < sites; s++) {
                int site = s, client = (s + k) % 4;
                then("writes at " + s + " of " + k, x -> x.writes(client, site, key, x.tally(key, 0), 8L));
                then("its stamp", x -> x.write(key, site, x.row(site, key, site), 1));
            }
            then("merges(0, " + k + ")", x -> x.merges(0, key));
            then("sibling(0, " + k + ", 0, 3)", x -> x.sibling(0, key, 0, 3));
            then("sends(0, 1, " + k + ")", x -> x.sends(0, 1, key));
            then("spread(" + k + ", 1)", x -> x.spread(key, 1));
            for (int w = 1; w <= 6; w++) {
                int what = w;
                then("tally(" + k + ", " + w + ")", x -> x.tally(key, what));
            }
        }
        for (int k = 0; k < keys; k++) {
            for (int s = 0; s < sites; s++) {
                int key = k, site = s;
                for (int w = 2; w <= 7; w++) {
                    int what = w;
                    then("write of the first, " + w, x -> x.write(key, site, 1, what));
                    then("write of the last, " + w, x -> x.write(key, site, x.row(site, key, site), what));
                }
            }
        }
        for (int c = 0; c < 4; c++) {
            int client = c;
            then("blinds(" + c + ")", x -> x.blinds(client));
        }
        then("tells()", x -> x.tells());
        then("type(59)", x -> x.type(59));
        then("tells() again", x -> x.tells());
        then("count(1)", x -> x.count(1));
        then("clear()", x -> x.clear());
    }

    private static SideVersions after(Run run) {
        SideVersions x = new SideVersions();
        run.on(x);
        return x;
    }

    private static void compare(String name, List<Question> asked, SideVersions one, SideVersions other) {
        for (Question q : asked) {
            Check.due(name + ", then " + q.name, q.call.on(one), q.call.on(other));
        }
    }

    /** Compares what two runs have led to. */
    void same(String name, Run one, Run other) {
        compare(name, sequel, after(one), after(other));
        for (int from = 0; from < questions.size(); from += PART) {
            List<Question> part = questions.subList(from, Math.min(from + PART, questions.size()));
            compare(name, part, after(one), after(other));
        }
    }

    /** A call that is refused with a code after a run leaves all as it was. */
    void refused(String name, Run run, long code, Call call) {
        same(name, x -> {
            run.on(x);
            Check.due(name, call.on(x), code);
        }, run);
    }

    /** No question changes what comes after it. */
    void askingChangesNothing(String name, Run run) {
        for (int from = 0; from < questions.size(); from += PART) {
            List<Question> part = questions.subList(from, Math.min(from + PART, questions.size()));
            SideVersions asked = after(run);
            part.forEach(q -> q.call.on(asked));
            compare(name, sequel, asked, after(run));
        }
    }
}
