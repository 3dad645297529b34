/** A replicated key-value store with dotted version vectors; README.md tells how to use it. */
public final class SideVersions {
    public static final int BAD = -1, STATE = -2, FULL = -3, UNLIKE = -4, OVER = -5, NONE = -9;

    private static final int MOST_SITES = 4;
    private static final int MOST_KEYS = 4;
    private static final int CLIENTS = 4;
    private static final int MOST_WRITES = 40;
    private static final int ALL_DOTS = MOST_SITES * MOST_WRITES;
    private static final int NO_DOT = -1;
    private static final int MOST_BYTES = 100;
    private static final int WHOLE = 0;
    private static final int BITS = 1;
    private static final int LAST_RULE = 4;

    private final Text text = new Text();
    private final Plan plan = new Plan();
    private final Key[] keys = new Key[MOST_KEYS];
    private final Client[] clients = new Client[CLIENTS];
    private final MergeRules mergeRules = new MergeRules();
    private final Merger merger = new Merger();
    private final Gossip gossip = new Gossip();
    private int sites = Plan.USUAL_SITES;
    private int bound = Plan.USUAL_BOUND;
    private int limit = Plan.USUAL_LIMIT;
    private int keyTotal;
    private int lastStamp;

    public SideVersions() {
        for (int i = 0; i < keys.length; i++) {
            keys[i] = new Key();
        }
        for (int i = 0; i < clients.length; i++) {
            clients[i] = new Client();
        }
    }

    // ---- the text

    public int type(int letter) {
        if (letter < 0 || letter > 255) {
            return BAD;
        }
        if (text.isFull()) {
            return FULL;
        }
        text.append(letter);
        return text.length;
    }

    public int clear() {
        int length = text.length;
        text.empty();
        return length;
    }

    public int tells() {
        int fault = plan.fill(text);
        if (fault != Plan.NO_FAULT) {
            return -10 - fault;
        }
        text.empty();
        beginAnew();
        return plan.items;
    }

    // ---- reading, writing, sending and merging

    public int reads(int client, int site, int key) {
        Client reader = clientAt(client);
        Replica replica = replicaAt(site, key);
        if (reader == null || replica == null) {
            return BAD;
        }
        reader.key = key;
        reader.known = replica.numbers;
        reader.told = replica.journal.pruned(replica.numbers, limit);
        replica.journal.seen.addAll(replica.siblings);
        return replica.siblings.size();
    }

    public int writes(int client, int site, int key, int kind, long value) {
        Client writer = clientAt(client);
        Replica replica = replicaAt(site, key);
        if (writer == null || replica == null || kind < WHOLE || kind > BITS) {
            return BAD;
        }
        if (kind == BITS && value < 0) {
            return BAD;
        }
        int number = replica.nextNumber();
        if (number > MOST_WRITES) {
            return FULL;
        }
        if (replica.journal.kind != kind) {
            return UNLIKE;
        }
        boolean informed = writer.key == key;
        lastStamp++;
        replica.take(value, lastStamp, informed ? writer.told : 0, informed ? writer.known : 0);
        replica.dropBeyond(bound);
        if (informed) {
            writer.becomeBlind();
        }
        return number;
    }

    public int blinds(int client) {
        Client one = clientAt(client);
        if (one == null) {
            return BAD;
        }
        if (one.isBlind()) {
            return 0;
        }
        one.becomeBlind();
        return 1;
    }

    public int sends(int from, int to, int key) {
        Replica sender = replicaAt(from, key);
        Replica receiver = replicaAt(to, key);
        if (sender == null || receiver == null || from == to) {
            return BAD;
        }
        receiver.receive(sender);
        receiver.dropBeyond(bound);
        return receiver.siblings.size();
    }

    public int merges(int site, int key) {
        Replica replica = replicaAt(site, key);
        if (replica == null) {
            return BAD;
        }
        int given = mergeRules.ruleOf(key);
        if (given == NONE || replica.siblings.size() < 2) {
            return STATE;
        }
        int number = replica.nextNumber();
        if (number > MOST_WRITES) {
            return FULL;
        }
        replica.blend(merger, given);
        if (merger.over) {
            return OVER;
        }
        lastStamp++;
        replica.mergeInto(merger.value, lastStamp);
        return number;
    }

    public int rules(int key, int rule) {
        if (keyAt(key) == null || rule < 0 || rule > LAST_RULE) {
            return BAD;
        }
        return mergeRules.give(key, rule);
    }

    // ---- what is so

    public int row(int site, int key, int s) {
        Replica replica = replicaAt(site, key);
        if (replica == null || !isSite(s)) {
            return BAD;
        }
        return Rows.number(replica.numbers, s);
    }

    public long sibling(int site, int key, int i, int what) {
        Replica replica = replicaAt(site, key);
        if (replica == null || i < 0 || what < 0 || what > 3) {
            return BAD;
        }
        int dot = replica.siblings.at(i);
        if (dot == NO_DOT) {
            return NONE;
        }
        switch (what) {
            case 0: return Dots.siteOf(dot);
            case 1: return Dots.numberOf(dot);
            case 2: return replica.journal.stampOf(dot);
            default: return replica.journal.valueOf(dot);
        }
    }

    public int context(int client, int what) {
        Client one = clientAt(client);
        if (one == null || what < -1) {
            return BAD;
        }
        boolean asksTold = what >= MOST_SITES;
        int site = asksTold ? what - MOST_SITES : what;
        if (what != -1 && !isSite(site)) {
            return BAD;
        }
        if (one.isBlind()) {
            return NONE;
        }
        if (what == -1) {
            return one.key;
        }
        return Rows.number(asksTold ? one.told : one.known, site);
    }

    public long write(int key, int site, int n, int what) {
        Key owner = keyAt(key);
        int dot = dotAt(key, site, n);
        if (owner == null || dot == NO_DOT || what < 0 || what > 7) {
            return BAD;
        }
        Journal journal = owner.journal;
        switch (what) {
            case 0: return journal.valueOf(dot);
            case 1: return journal.stampOf(dot);
            case 2: return bit(journal.seen.has(dot));
            case 3: return bit(journal.dropped.has(dot));
            case 4: return bit(journal.replaced.has(dot));
            case 5: return bit(journal.merged.has(dot));
            case 6: return owner.holders(dot);
            default: return bit(owner.isLost(dot));
        }
    }

    public int ahead(int key, int a, int m, int b, int n, int way) {
        Key owner = keyAt(key);
        int covered = dotAt(key, a, m);
        int asked = dotAt(key, b, n);
        if (owner == null || covered == NO_DOT || asked == NO_DOT || way < 0 || way > 1) {
            return BAD;
        }
        int numbers = way == 0 ? owner.journal.toldOf(asked) : owner.journal.knownOf(asked);
        return bit(Rows.number(numbers, a) >= m);
    }

    public int alike(int a, int b, int key) {
        Replica one = replicaAt(a, key);
        Replica other = replicaAt(b, key);
        if (one == null || other == null) {
            return BAD;
        }
        return bit(one.numbers == other.numbers && one.siblings.isSame(other.siblings));
    }

    public int behind(int site, int key) {
        Key owner = keyAt(key);
        Replica replica = replicaAt(site, key);
        if (owner == null || replica == null) {
            return BAD;
        }
        return Rows.sum(owner.greatestRow()) - Rows.sum(replica.numbers);
    }

    public int spread(int key, int what) {
        Key owner = keyAt(key);
        if (owner == null || what < 0 || what > 1) {
            return BAD;
        }
        gossip.lookAt(owner, sites);
        return what == 0 ? gossip.fewest() : gossip.firstOfFewest();
    }

    public int rule(int i, int what) {
        if (i < 0 || what < 0 || what > 1) {
            return BAD;
        }
        return what == 0 ? mergeRules.keyAtPlace(i) : mergeRules.ruleAtPlace(i);
    }

    public int tally(int key, int what) {
        Key owner = keyAt(key);
        if (owner == null || what < 0 || what > 6) {
            return BAD;
        }
        Journal journal = owner.journal;
        switch (what) {
            case 0: return journal.kind;
            case 1: return Rows.sum(journal.made);
            case 2: return journal.replaced.size();
            case 3: return journal.merged.size();
            case 4: return journal.dropped.size();
            case 5: return owner.lostTotal();
            default: return journal.falseSiblings;
        }
    }

    public int count(int what) {
        switch (what) {
            case 0: return sites;
            case 1: return keyTotal;
            case 2: return bound;
            case 3: return limit;
            case 4: return lastStamp;
            case 5: return text.length;
            default: return BAD;
        }
    }

    // ---- what the methods above share

    private void beginAnew() {
        sites = plan.sites;
        bound = plan.bound;
        limit = plan.limit;
        keyTotal = plan.keyTotal;
        lastStamp = 0;
        for (int i = 0; i < keys.length; i++) {
            keys[i].beginAnew(plan.kindOf(i));
        }
        for (int i = 0; i < clients.length; i++) {
            clients[i].becomeBlind();
        }
        mergeRules.forget();
    }

    private boolean isSite(int site) {
        return site >= 0 && site < sites;
    }

    private Key keyAt(int key) {
        return key >= 0 && key < keyTotal && key < keys.length ? keys[key] : null;
    }

    private Client clientAt(int client) {
        return client >= 0 && client < clients.length ? clients[client] : null;
    }

    private Replica replicaAt(int site, int key) {
        Key owner = keyAt(key);
        return owner != null && isSite(site) ? owner.replicaOf(site) : null;
    }

    private int dotAt(int key, int site, int n) {
        Key owner = keyAt(key);
        if (owner == null || !isSite(site) || n < 1 || n > MOST_WRITES) {
            return NO_DOT;
        }
        int dot = Dots.of(site, n);
        return owner.journal.has(dot) ? dot : NO_DOT;
    }

    private static int bit(boolean holds) {
        return holds ? 1 : 0;
    }

    /** The bytes typed so far, and the token that the reading of them has come to. */
    private static final class Text {
        static final int END = 0, WORD = 1, NUMBER = 2, SEMICOLON = 3, BLANK = 4, OTHER = 5;

        private final int[] bytes = new int[MOST_BYTES];
        private int length;
        private int start;
        private int end;
        private int sort;

        boolean isFull() {
            return length >= bytes.length;
        }

        void append(int letter) {
            if (length < bytes.length) {
                bytes[length] = letter;
                length++;
            }
        }

        void empty() {
            length = 0;
        }

        void rewind() {
            end = 0;
        }

        /** Goes on to the next token; at the end its start is the length of the text. */
        void step() {
            start = end;
            while (start < length && sortAt(start) == BLANK) {
                start++;
            }
            sort = sortAt(start);
            end = Math.min(start + 1, length);
            boolean isLong = sort == WORD || sort == NUMBER;
            while (isLong && end < length && sortAt(end) == sort) {
                end++;
            }
        }

        boolean isWord(String word) {
            if (sort != WORD || end - start != word.length()) {
                return false;
            }
            for (int i = 0; i < word.length(); i++) {
                if (byteAt(start + i) != word.charAt(i)) {
                    return false;
                }
            }
            return true;
        }

        /** The number that the token is, or -1: no number of more than one digit may ever stand. */
        int digit() {
            return sort == NUMBER && end - start == 1 ? byteAt(start) - '0' : -1;
        }

        private int byteAt(int place) {
            return place >= 0 && place < length && place < bytes.length ? bytes[place] : -1;
        }

        private int sortAt(int place) {
            int letter = byteAt(place);
            if (letter < 0) {
                return END;
            }
            if (letter >= 'a' && letter <= 'z') {
                return WORD;
            }
            if (letter >= '0' && letter <= '9') {
                return NUMBER;
            }
            if (letter == ';') {
                return SEMICOLON;
            }
            return letter == ' ' ? BLANK : OTHER;
        }
    }

    /** What a text asks for. It is apart from the store, since a text with a fault changes nothing. */
    private static final class Plan {
        static final int NO_FAULT = -1;
        static final int USUAL_SITES = 3;
        static final int USUAL_BOUND = 4;
        static final int USUAL_LIMIT = 4;
        private static final int MOST_ITEMS = 3 + MOST_KEYS;
        private static final int NOT_GIVEN = 0;

        private final int[] kinds = new int[MOST_KEYS];
        private int sites;
        private int bound;
        private int limit;
        private int keyTotal;
        private int items;

        /** Reads a text from its beginning; returns its fault, or NO_FAULT. */
        int fill(Text text) {
            forget();
            text.rewind();
            for (int i = 0; i <= MOST_ITEMS; i++) {
                text.step();
                if (text.sort == Text.END) {
                    putUsual();
                    return NO_FAULT;
                }
                if (!takesWords(text) || !takesSemicolon(text)) {
                    return text.start;
                }
                items++;
            }
            return text.start;
        }

        int kindOf(int key) {
            return key >= 0 && key < keyTotal && key < kinds.length ? kinds[key] : WHOLE;
        }

        private void forget() {
            sites = NOT_GIVEN;
            bound = NOT_GIVEN;
            limit = NOT_GIVEN;
            keyTotal = 0;
            items = 0;
        }

        private void putUsual() {
            sites = sites == NOT_GIVEN ? USUAL_SITES : sites;
            bound = bound == NOT_GIVEN ? USUAL_BOUND : bound;
            limit = limit == NOT_GIVEN ? USUAL_LIMIT : limit;
        }

        /** Whether the item that begins here may stand, but for its ; - if not, the text stays at its fault. */
        private boolean takesWords(Text text) {
            if (text.isWord("whole")) {
                return takesKey(WHOLE);
            }
            if (text.isWord("bits")) {
                return takesKey(BITS);
            }
            if (text.isWord("sites") && sites == NOT_GIVEN) {
                sites = takenNumber(text, 2, MOST_SITES);
                return sites != NOT_GIVEN;
            }
            if (text.isWord("bound") && bound == NOT_GIVEN) {
                bound = takenNumber(text, 1, 6);
                return bound != NOT_GIVEN;
            }
            if (text.isWord("limit") && limit == NOT_GIVEN) {
                limit = takenNumber(text, 1, 4);
                return limit != NOT_GIVEN;
            }
            return false;
        }

        private boolean takesKey(int kind) {
            if (keyTotal >= kinds.length) {
                return false;
            }
            kinds[keyTotal] = kind;
            keyTotal++;
            return true;
        }

        private int takenNumber(Text text, int lowest, int highest) {
            text.step();
            int digit = text.digit();
            return digit >= lowest && digit <= highest ? digit : NOT_GIVEN;
        }

        private boolean takesSemicolon(Text text) {
            text.step();
            return text.sort == Text.SEMICOLON;
        }
    }

    /** A row is one int with a byte for each site's number, so that copying it makes no object. */
    private static final class Rows {
        static int number(int row, int site) {
            return row >>> 8 * site & 255;
        }

        static int with(int row, int site, int number) {
            return row & ~(255 << 8 * site) | number << 8 * site;
        }

        static int greater(int row, int other) {
            int result = 0;
            for (int s = 0; s < MOST_SITES; s++) {
                result = with(result, s, Math.max(number(row, s), number(other, s)));
            }
            return result;
        }

        static int sum(int row) {
            int total = 0;
            for (int s = 0; s < MOST_SITES; s++) {
                total += number(row, s);
            }
            return total;
        }

        static int aboveZero(int row) {
            int total = 0;
            for (int s = 0; s < MOST_SITES; s++) {
                total += number(row, s) > 0 ? 1 : 0;
            }
            return total;
        }
    }

    /** A set of dots of one key. Dots are counted by site and then by number, the order of siblings. */
    private static final class Dots {
        private final long[] bits = new long[MOST_SITES];

        static int of(int site, int number) {
            return site * MOST_WRITES + number - 1;
        }

        static int siteOf(int dot) {
            return dot / MOST_WRITES;
        }

        static int numberOf(int dot) {
            return dot % MOST_WRITES + 1;
        }

        static boolean isDot(int dot) {
            return dot >= 0 && dot < ALL_DOTS;
        }

        /** The dots of a site that a row covers, as bits. */
        static long covered(int row, int site) {
            return (1L << Rows.number(row, site)) - 1;
        }

        boolean has(int dot) {
            return isDot(dot) && (bits[siteOf(dot)] & bitOf(dot)) != 0;
        }

        void add(int dot) {
            if (isDot(dot)) {
                bits[siteOf(dot)] |= bitOf(dot);
            }
        }

        void remove(int dot) {
            if (isDot(dot)) {
                bits[siteOf(dot)] &= ~bitOf(dot);
            }
        }

        void empty() {
            for (int s = 0; s < MOST_SITES; s++) {
                bits[s] = 0;
            }
        }

        int size() {
            int total = 0;
            for (int s = 0; s < MOST_SITES; s++) {
                total += Long.bitCount(bits[s]);
            }
            return total;
        }

        /** The dot with this index in the order of siblings, or NO_DOT. */
        int at(int index) {
            int before = 0;
            for (int dot = 0; dot < ALL_DOTS; dot++) {
                if (has(dot)) {
                    if (before == index) {
                        return dot;
                    }
                    before++;
                }
            }
            return NO_DOT;
        }

        boolean isSame(Dots other) {
            for (int s = 0; s < MOST_SITES; s++) {
                if (bits[s] != other.bits[s]) {
                    return false;
                }
            }
            return true;
        }

        void addAll(Dots others) {
            for (int s = 0; s < MOST_SITES; s++) {
                bits[s] |= others.bits[s];
            }
        }

        void addCovered(Dots others, int row) {
            for (int s = 0; s < MOST_SITES; s++) {
                bits[s] |= others.bits[s] & covered(row, s);
            }
        }

        void removeCovered(int row) {
            for (int s = 0; s < MOST_SITES; s++) {
                bits[s] &= ~covered(row, s);
            }
        }

        int coveredTotal(int row) {
            int total = 0;
            for (int s = 0; s < MOST_SITES; s++) {
                total += Long.bitCount(bits[s] & covered(row, s));
            }
            return total;
        }

        /** A dot that one side alone has stays only if the row of the other side does not cover it. */
        void join(int row, Dots sent, int sentRow) {
            for (int s = 0; s < MOST_SITES; s++) {
                long own = bits[s];
                long other = sent.bits[s];
                bits[s] = own & other | own & ~covered(sentRow, s) | other & ~covered(row, s);
            }
        }

        /** The dots of a site that a row covers although this set has them no more, as bits. */
        long gone(int row, int site) {
            return site >= 0 && site < bits.length ? covered(row, site) & ~bits[site] : 0;
        }

        private static long bitOf(int dot) {
            return 1L << numberOf(dot) - 1;
        }
    }

    /** All writes of one key since the text was read, and what has become of them. */
    private static final class Journal {
        private final long[] values = new long[ALL_DOTS];
        private final int[] stamps = new int[ALL_DOTS];
        private final int[] told = new int[ALL_DOTS];
        private final int[] known = new int[ALL_DOTS];
        private final Dots seen = new Dots();
        private final Dots dropped = new Dots();
        private final Dots replaced = new Dots();
        private final Dots merged = new Dots();
        private int kind;
        private int made;
        private int falseSiblings;

        void beginAnew(int newKind) {
            kind = newKind;
            made = 0;
            falseSiblings = 0;
            seen.empty();
            dropped.empty();
            replaced.empty();
            merged.empty();
        }

        boolean has(int dot) {
            return Dots.isDot(dot) && Rows.number(made, Dots.siteOf(dot)) >= Dots.numberOf(dot);
        }

        void note(int dot, long value, int stamp, int toldRow, int knownRow) {
            if (Dots.isDot(dot)) {
                values[dot] = value;
                stamps[dot] = stamp;
                told[dot] = toldRow;
                known[dot] = knownRow;
                made = Rows.with(made, Dots.siteOf(dot), Dots.numberOf(dot));
            }
        }

        long valueOf(int dot) {
            return has(dot) ? values[dot] : 0;
        }

        int stampOf(int dot) {
            return has(dot) ? stamps[dot] : 0;
        }

        int toldOf(int dot) {
            return has(dot) ? told[dot] : 0;
        }

        int knownOf(int dot) {
            return has(dot) ? known[dot] : 0;
        }

        /** The dot of a set with the lowest stamp above a stamp, or NO_DOT. */
        int nextByStamp(Dots set, int stamp) {
            int next = NO_DOT;
            for (int dot = 0; dot < ALL_DOTS; dot++) {
                if (set.has(dot) && stampOf(dot) > stamp) {
                    if (next == NO_DOT || stampOf(dot) < stampOf(next)) {
                        next = dot;
                    }
                }
            }
            return next;
        }

        /** A row without the oldest of its numbers, so that at most limit of them are above 0. */
        int pruned(int row, int limit) {
            int result = row;
            for (int excess = Rows.aboveZero(row) - limit; excess > 0; excess--) {
                result = Rows.with(result, oldestSite(result), 0);
            }
            return result;
        }

        private int oldestSite(int row) {
            int oldest = 0;
            int lowest = 0;
            for (int s = 0; s < MOST_SITES; s++) {
                int number = Rows.number(row, s);
                int stamp = number > 0 ? stampOf(Dots.of(s, number)) : 0;
                if (stamp > 0 && (lowest == 0 || stamp < lowest)) {
                    oldest = s;
                    lowest = stamp;
                }
            }
            return oldest;
        }
    }

    /** What a site has of a key. */
    private static final class Replica {
        private final int site;
        private final Journal journal;
        private final Dots siblings = new Dots();
        private int numbers;

        Replica(int site, Journal journal) {
            this.site = site;
            this.journal = journal;
        }

        void beginAnew() {
            numbers = 0;
            siblings.empty();
        }

        int nextNumber() {
            return Rows.number(numbers, site) + 1;
        }

        /** Makes a new write here that replaces the siblings that it tells. */
        void take(long value, int stamp, int told, int known) {
            journal.replaced.addCovered(siblings, told);
            siblings.removeCovered(told);
            journal.falseSiblings += siblings.coveredTotal(known);
            int number = nextNumber();
            int dot = Dots.of(site, number);
            numbers = Rows.with(Rows.greater(numbers, told), site, number);
            journal.note(dot, value, stamp, told, known);
            siblings.add(dot);
        }

        void receive(Replica sender) {
            siblings.join(numbers, sender.siblings, sender.numbers);
            numbers = Rows.greater(numbers, sender.numbers);
        }

        void dropBeyond(int bound) {
            for (int excess = siblings.size() - bound; excess > 0; excess--) {
                int oldest = journal.nextByStamp(siblings, 0);
                siblings.remove(oldest);
                journal.dropped.add(oldest);
            }
        }

        /** Lets the merger take the values of the siblings, in the order of their stamps. */
        void blend(Merger merger, int rule) {
            merger.begin(journal.kind, rule);
            int stamp = 0;
            for (int left = siblings.size(); left > 0; left--) {
                int dot = journal.nextByStamp(siblings, stamp);
                stamp = journal.stampOf(dot);
                merger.add(journal.valueOf(dot));
            }
            merger.end();
        }

        /** Makes a write the only sibling: with none left before, it replaces none. */
        void mergeInto(long value, int stamp) {
            journal.seen.addAll(siblings);
            journal.merged.addAll(siblings);
            siblings.empty();
            take(value, stamp, numbers, numbers);
        }

        long covered(int s) {
            return Dots.covered(numbers, s);
        }

        long gone(int s) {
            return siblings.gone(numbers, s);
        }
    }

    /** A key: its writes, and what each site has of it. */
    private static final class Key {
        private final Journal journal = new Journal();
        private final Replica[] replicas = new Replica[MOST_SITES];

        Key() {
            for (int s = 0; s < replicas.length; s++) {
                replicas[s] = new Replica(s, journal);
            }
        }

        void beginAnew(int kind) {
            journal.beginAnew(kind);
            for (int s = 0; s < replicas.length; s++) {
                replicas[s].beginAnew();
            }
        }

        Replica replicaOf(int site) {
            return site >= 0 && site < replicas.length ? replicas[site] : null;
        }

        int greatestRow() {
            int greatest = 0;
            for (int s = 0; s < replicas.length; s++) {
                greatest = Rows.greater(greatest, replicas[s].numbers);
            }
            return greatest;
        }

        /** The sites at which a dot is a sibling, as a bit set. */
        int holders(int dot) {
            int set = 0;
            for (int s = 0; s < replicas.length; s++) {
                set |= bit(replicas[s].siblings.has(dot)) << s;
            }
            return set;
        }

        boolean isLost(int dot) {
            return journal.has(dot) && !journal.seen.has(dot) && holders(dot) == 0;
        }

        int lostTotal() {
            int total = 0;
            for (int dot = 0; dot < ALL_DOTS; dot++) {
                total += bit(isLost(dot));
            }
            return total;
        }

        /** Whether a site has nothing that the states of a set of sites, joined, would lack. */
        boolean isWithin(int site, int set) {
            Replica replica = replicaOf(site);
            for (int s = 0; replica != null && s < MOST_SITES; s++) {
                long covered = 0;
                long gone = 0;
                for (int other = 0; other < replicas.length; other++) {
                    if ((set >> other & 1) == 1) {
                        covered |= replicas[other].covered(s);
                        gone |= replicas[other].gone(s);
                    }
                }
                if ((replica.covered(s) & ~covered) != 0 || (replica.gone(s) & ~gone) != 0) {
                    return false;
                }
            }
            return true;
        }
    }

    /** A client, with its context if it is not blind. */
    private static final class Client {
        private static final int NO_KEY = -1;

        private int key = NO_KEY;
        private int known;
        private int told;

        boolean isBlind() {
            return key == NO_KEY;
        }

        void becomeBlind() {
            key = NO_KEY;
            known = 0;
            told = 0;
        }
    }

    /** The merge rules of at most two keys, the oldest first. */
    private static final class MergeRules {
        private final int[] owners = new int[2];
        private final int[] given = new int[2];
        private int size;

        void forget() {
            size = 0;
        }

        /** Gives a key a rule; returns the key that loses its own, or NONE. */
        int give(int key, int rule) {
            int place = placeOf(key);
            if (place >= 0) {
                given[place] = rule;
                return NONE;
            }
            int loser = NONE;
            if (size >= owners.length) {
                loser = owners[0];
                owners[0] = owners[1];
                given[0] = given[1];
                size = 1;
            }
            owners[size] = key;
            given[size] = rule;
            size++;
            return loser;
        }

        int ruleOf(int key) {
            return ruleAtPlace(placeOf(key));
        }

        int keyAtPlace(int place) {
            return isPlace(place) ? owners[place] : NONE;
        }

        int ruleAtPlace(int place) {
            return isPlace(place) ? given[place] : NONE;
        }

        private boolean isPlace(int place) {
            return place >= 0 && place < size && place < owners.length;
        }

        private int placeOf(int key) {
            for (int i = 0; i < size && i < owners.length; i++) {
                if (owners[i] == key) {
                    return i;
                }
            }
            return -1;
        }
    }

    /** Merges values, given one after the other, by a rule. */
    private static final class Merger {
        private static final int GREATEST = 0, LOWEST = 1, TOGETHER = 2, COMMON = 3;
        private static final int MOST_STEPS = 1000;
        private static final long LEAST_LONG = 1L << 63;
        private static final long GREATEST_LONG = ~LEAST_LONG;

        private int kind;
        private int rule;
        private long value;
        private boolean over;

        /** Begins with the value that changes nothing under the rule. */
        void begin(int newKind, int newRule) {
            kind = newKind;
            rule = newRule;
            over = false;
            value = 0;
            if (rule == GREATEST) {
                value = LEAST_LONG;
            } else if (rule == LOWEST) {
                value = GREATEST_LONG;
            } else if (rule == COMMON && kind == BITS) {
                value = -1;
            }
        }

        void add(long next) {
            if (rule == GREATEST) {
                value = Math.max(value, next);
            } else if (rule == LOWEST) {
                value = Math.min(value, next);
            } else if (rule == TOGETHER) {
                putTogether(next);
            } else if (rule == COMMON) {
                keepCommon(next);
            } else {
                value = next;
            }
        }

        void end() {
            if (rule == COMMON && kind == WHOLE) {
                over = value == LEAST_LONG;
                value = -value;
            }
        }

        private void putTogether(long next) {
            if (kind == BITS) {
                value |= next;
                return;
            }
            long sum = value + next;
            // the signs alone tell: a sum that leaves the longs differs in sign from both its parts
            over = over || ((value ^ sum) & (next ^ sum)) < 0;
            value = sum;
        }

        private void keepCommon(long next) {
            if (kind == BITS) {
                value &= next;
                return;
            }
            // divisors are kept below 0, since 2 to the power of 63 is a long only there
            value = divisorOf(value, next > 0 ? -next : next);
        }

        private static long divisorOf(long a, long b) {
            long divisor = a;
            long rest = b;
            for (int i = 0; i < MOST_STEPS && rest != 0; i++) {
                long next = divisor % rest;
                divisor = rest;
                rest = next;
            }
            return divisor;
        }
    }

    /**
     * Finds the fewest transmissions. Sending joins two states, whatever the order, so what a site comes to
     * have is always the join of what some sites had at first: a state is kept as the set of all sites whose
     * first states are in that join, four bits for each site in one int.
     */
    private static final class Gossip {
        private final int[] closed = new int[1 << MOST_SITES];
        private int sites;
        private int begin;

        void lookAt(Key key, int siteTotal) {
            sites = Math.min(siteTotal, MOST_SITES);
            for (int set = 0; set < 1 << sites; set++) {
                closed[set] = 0;
                for (int s = 0; s < sites; s++) {
                    closed[set] |= bit(key.isWithin(s, set)) << s;
                }
            }
            begin = 0;
            for (int s = 0; s < sites; s++) {
                begin |= closed[1 << s] << 4 * s;
            }
        }

        /** At most all states go to one site, and from there to all others. */
        int fewest() {
            int most = 2 * (sites - 1);
            for (int total = 0; total < most; total++) {
                if (isEnough(this, begin, total)) {
                    return total;
                }
            }
            return most;
        }

        int firstOfFewest() {
            int total = fewest();
            if (total == 0) {
                return NONE;
            }
            for (int from = 0; from < sites; from++) {
                for (int to = 0; to < sites; to++) {
                    int next = afterSending(begin, from, to);
                    if (next != begin && isEnough(this, next, total - 1)) {
                        return 10 * from + to;
                    }
                }
            }
            return NONE;
        }

        /** Whether all sites can be alike after at most so many transmissions more. */
        private static boolean isEnough(Gossip in, int state, int left) {
            int lacking = in.lackingSites(state);
            // each site that lacks something must be sent something, so fewer can't do
            if (lacking == 0 || lacking > left) {
                return lacking == 0;
            }
            for (int from = 0; from < in.sites; from++) {
                for (int to = 0; to < in.sites; to++) {
                    int next = in.afterSending(state, from, to);
                    if (next != state && isEnough(in, next, left - 1)) {
                        return true;
                    }
                }
            }
            return false;
        }

        private int lackingSites(int state) {
            int all = (1 << sites) - 1;
            int lacking = 0;
            for (int s = 0; s < sites; s++) {
                lacking += bit(setOf(state, s) != all);
            }
            return lacking;
        }

        private int afterSending(int state, int from, int to) {
            int joined = closed[setOf(state, from) | setOf(state, to)];
            return state & ~(15 << 4 * to) | joined << 4 * to;
        }

        private static int setOf(int state, int site) {
            return state >> 4 * site & 15;
        }
    }
}
