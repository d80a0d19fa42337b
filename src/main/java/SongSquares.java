/**
 * The song tax of a choral duchy: who sings where, what each voice owes,
 * and what can be tried, guessed and drawn from that.
 */
public final class SongSquares {
    public static final int NONE = -1, UNKNOWN = -1000000001, OUTSIDE = -1000000002, NOT = -1000000003, FULL = -1000000004;

    private static final int MOST_LETTERS = 240, MOST_FIGURES = 3;
    private static final int MOST_SINGERS = 7, MOST_INSPECTORS = 4, MOST_PLACES = 4, MOST_WORDS = 9;
    private static final int MOST_RATE = 9, MOST_TOLD_PURSE = 999;
    private static final int GENTRY = 1, CHILD = 2, HUMMER = 3;
    private static final int MOST_TREASURY = 999999, MOST_CAUGHT = 9999, MOST_PURSE = 9999, MOST_GIFT = 999;
    private static final int MOST_VERSES_AT_ONCE = 60, LAST_FREE_VERSE = 9000;
    private static final int MOST_VERSES_TRIED = 200, MOST_VERSES_LASTED = 500, MOST_DRY = 60;
    private static final int MOST_PAID = 6, MOST_PAYMENT = 9999, MOST_ENTRIES = 15;
    private static final int MOST_UNDONE = 16, IMAGES = 2;
    private static final int HUNDRED = 100, BILLION = 1000000000;
    private static final int FAR = 1000000;
    private static final int MISPLACED = 1, MISCOUNTED = 2, TOO_MANY = 3, BELOW_FAULTS = -10;

    private final Reader reader;
    private final Register draft, register;
    private final Hall now, trial;
    private final Past past;
    private final Image[] images;
    private final Ledger ledger;
    private final Choirs choirs;
    private final Sharing sharing;
    private final Grouping grouping;
    private final Draws draws;

    public SongSquares() {
        Register shown = new Register();
        Image[] pair = new Image[IMAGES];
        for (int i = 0; i < IMAGES; i++) {
            pair[i] = new Image(shown);
        }
        reader = new Reader();
        draft = new Register();
        register = shown;
        now = new Hall(shown);
        trial = new Hall(shown);
        past = new Past(shown);
        images = pair;
        ledger = new Ledger();
        choirs = new Choirs();
        sharing = new Sharing(shown);
        grouping = new Grouping(shown);
        draws = new Draws();
    }

    // ---- the duchy

    public int feed(int letter) {
        if (letter < 0 || letter > 255) {
            return OUTSIDE;
        }
        return reader.append(letter) ? reader.length : FULL;
    }

    public int duchy() {
        int flaw = reader.readInto(draft);
        if (flaw != 0) {
            return BELOW_FAULTS - flaw;
        }
        register.takeFrom(draft);
        now.begin();
        ledger.clear();
        past.forget();
        for (int i = 0; i < IMAGES; i++) {
            images[i].kept = false;
        }
        return register.singers;
    }

    public int fault() {
        return reader.flawAt;
    }

    public int told(int what) {
        switch (what) {
            case 0: return now.rate;
            case 1: return register.places;
            case 2: return register.words;
            case 3: return register.singers;
            case 4: return register.inspectors;
            case 5: return reader.length;
            case 6: return now.verses;
            case 7: return now.whoSings();
            case 8: return now.treasury;
            case 9: return now.caught;
            case 10: return now.owedByAll();
            case 11: return now.deafPlaces();
            case 12: return now.richest();
            case 13: return fewest();
            case 14: return ledger.payments;
            case 15:
            case 16:
            case 17: return toldOfChoirs(what);
            case 18: return ledger.entries;
            case 19: return past.count;
            default: return OUTSIDE;
        }
    }

    public int singer(int s, int what) {
        if (!register.hasSinger(s)) {
            return UNKNOWN;
        }
        switch (what) {
            case 0: return register.kind[s];
            case 1: return now.at[s];
            case 2: return now.purse[s];
            case 3: return register.known[s];
            case 4: return now.turn[s];
            case 5: return now.owedBy(s, now.rate);
            default: return OUTSIDE;
        }
    }

    public int place(int x, int what) {
        if (!register.hasPlace(x)) {
            return UNKNOWN;
        }
        switch (what) {
            case 0: return now.whoIsIn(x);
            case 1: return now.whoIsIn(x) & now.whoSings();
            case 2: return now.owedIn(x);
            case 3: return now.inspectorsIn(x);
            default: return OUTSIDE;
        }
    }

    // ---- what is done

    public int verse(int n) {
        int refusal = refusalOfVerses(n);
        if (refusal != 0) {
            return refusal;
        }
        past.mark(now);
        for (int i = 0; i < n; i++) {
            now.singVerse();
        }
        return now.treasury;
    }

    public int join(int s) {
        if (!register.hasSinger(s)) {
            return UNKNOWN;
        }
        if (now.sings(s)) {
            return NOT;
        }
        past.mark(now);
        now.letIn(s);
        return now.turn[s];
    }

    public int hush(int s) {
        if (!register.hasSinger(s)) {
            return UNKNOWN;
        }
        if (!now.sings(s)) {
            return NOT;
        }
        past.mark(now);
        now.silence(s);
        return now.voicesIn(now.at[s]);
    }

    public int go(int s, int x) {
        if (!register.hasSinger(s) || !register.hasPlace(x)) {
            return UNKNOWN;
        }
        int was = now.at[s];
        if (was == x) {
            return NOT;
        }
        past.mark(now);
        now.move(s, x);
        return was;
    }

    public int give(int s, int n) {
        if (!register.hasSinger(s)) {
            return UNKNOWN;
        }
        if (n < 1 || n > MOST_GIFT) {
            return OUTSIDE;
        }
        past.mark(now);
        now.fill(s, n);
        return now.purse[s];
    }

    public int rate(int r) {
        if (r < 1 || r > MOST_RATE) {
            return OUTSIDE;
        }
        if (register.isEmpty()) {
            return NOT;
        }
        int was = now.rate;
        past.mark(now);
        now.rate = r;
        return was;
    }

    public int inspect(int i, int x) {
        if (!register.hasInspector(i) || !register.hasPlace(x)) {
            return UNKNOWN;
        }
        int was = now.post[i];
        if (was == x) {
            return NOT;
        }
        past.mark(now);
        now.post[i] = x;
        return was;
    }

    public int drift(int n) {
        int refusal = refusalOfVerses(n);
        if (refusal != 0) {
            return refusal;
        }
        past.mark(now);
        for (int i = 0; i < n; i++) {
            stirByDraws();
            now.singVerse();
        }
        return now.treasury;
    }

    public int undo() {
        return past.restore(now) ? past.count : NOT;
    }

    // ---- tried

    public int treasury(int n) {
        if (n < 0 || n > MOST_VERSES_TRIED) {
            return OUTSIDE;
        }
        if (register.isEmpty()) {
            return NOT;
        }
        trial.takeFrom(now);
        for (int i = 0; i < n; i++) {
            trial.singVerse();
        }
        return trial.treasury;
    }

    public int lasts(int s) {
        if (!register.hasSinger(s)) {
            return UNKNOWN;
        }
        trial.takeFrom(now);
        for (int behind = 0; behind <= MOST_VERSES_LASTED; behind++) {
            if (!trial.sings(s)) {
                return behind;
            }
            trial.singVerse();
        }
        return NONE;
    }

    public int more(int s, int x) {
        if (!register.hasSinger(s) || !register.hasPlace(x)) {
            return UNKNOWN;
        }
        if (now.sings(s)) {
            return NOT;
        }
        // The last voice moves nobody, so what it owes itself is all there is more.
        return now.priceBy(now.rate, s, now.voicesIn(x), x);
    }

    public int bears(int set, int x, int what) {
        if (!register.hasAll(set) || !register.hasPlace(x)) {
            return UNKNOWN;
        }
        if (what < 0 || what > 1) {
            return OUTSIDE;
        }
        int borne = now.mostBorne(set, x);
        return what == 0 ? Integer.bitCount(borne) : borne;
    }

    public int shared(int set, int word) {
        if (!register.hasAll(set)) {
            return UNKNOWN;
        }
        if (word != NONE && !register.hasWord(word)) {
            return OUTSIDE;
        }
        if (register.isEmpty()) {
            return NOT;
        }
        if (register.knownBy(set) != register.everyWord()) {
            return NONE;
        }
        sharing.share(set);
        return word == NONE ? sharing.changes : sharing.row[word];
    }

    public int groups(int set, int s) {
        if (!register.hasAll(set) || s != NONE && !register.hasSinger(s)) {
            return UNKNOWN;
        }
        if (register.isEmpty()) {
            return NOT;
        }
        grouping.group(set, now);
        return s == NONE ? grouping.least : grouping.placed[s];
    }

    public int rates(int v) {
        if (v < 0 || v > MOST_TREASURY) {
            return OUTSIDE;
        }
        for (int r = 1; r <= MOST_RATE; r++) {
            if (now.paidByAll(r) >= v) {
                return r;
            }
        }
        return NONE;
    }

    public int dry(int n, int q) {
        if (n < 0 || n > MOST_DRY || q < 0 || q > HUNDRED) {
            return OUTSIDE;
        }
        long odds = BILLION;
        for (int i = 0; i < n; i++) {
            odds = odds * q / HUNDRED;
        }
        return (int) odds;
    }

    // ---- what was paid

    public int pay(int x, int v) {
        if (!register.hasPlace(x)) {
            return UNKNOWN;
        }
        if (v < 0 || v > MOST_PAYMENT) {
            return OUTSIDE;
        }
        return ledger.addPayment(x, v) ? ledger.payments : FULL;
    }

    public int write(int s, int pence) {
        if (!register.hasSinger(s)) {
            return UNKNOWN;
        }
        if (pence < 0 || pence > MOST_PURSE) {
            return OUTSIDE;
        }
        return ledger.addEntry(s, pence) ? ledger.entries : FULL;
    }

    public int tear() {
        int had = ledger.payments + ledger.entries;
        ledger.clear();
        return had;
    }

    public int judge() {
        return ledger.firstWrong(now);
    }

    // ---- draws, images

    public int seed(int v) {
        if (v < 0) {
            return OUTSIDE;
        }
        int was = draws.grain;
        draws.grain = v;
        return was;
    }

    public int keep(int i) {
        if (i < 0 || i >= IMAGES) {
            return UNKNOWN;
        }
        images[i].hall.takeFrom(now);
        images[i].grain = draws.grain;
        images[i].kept = true;
        past.forget();
        return 1;
    }

    public int goBack(int i) {
        if (i < 0 || i >= IMAGES) {
            return UNKNOWN;
        }
        if (!images[i].kept) {
            return NOT;
        }
        now.takeFrom(images[i].hall);
        draws.grain = images[i].grain;
        past.forget();
        return 1;
    }

    // ---- what the calls share

    private static boolean isIn(int k, int set) {
        return (set >> k & 1) == 1;
    }

    private int refusalOfVerses(int n) {
        if (n < 1 || n > MOST_VERSES_AT_ONCE) {
            return OUTSIDE;
        }
        if (register.isEmpty()) {
            return NOT;
        }
        return now.verses > LAST_FREE_VERSE ? FULL : 0;
    }

    private int toldOfChoirs(int what) {
        choirs.gather(register, now, ledger);
        if (what == 15) {
            return choirs.count;
        }
        return what == 16 ? choirs.common : choirs.bestLip(register);
    }

    private int fewest() {
        if (register.isEmpty()) {
            return NONE;
        }
        int best = NONE;
        int size = MOST_SINGERS + 1;
        for (int set = 0; set <= register.everyone(); set++) {
            if (Integer.bitCount(set) < size && register.knownBy(set) == register.everyWord()) {
                best = set;
                size = Integer.bitCount(set);
            }
        }
        return best;
    }

    private void stirByDraws() {
        if (register.singers == 0) {
            return;
        }
        int event = draws.draw(5);
        int s = draws.draw(register.singers);
        switch (event) {
            case 0:
                now.letIn(s);
                break;
            case 1:
                now.silence(s);
                break;
            case 2:
                now.move(s, draws.draw(register.places));
                break;
            case 3:
                now.fill(s, draws.draw(50));
                break;
            default:
                sendByDraws();
                break;
        }
    }

    private void sendByDraws() {
        if (register.inspectors == 0) {
            return;
        }
        int i = draws.draw(register.inspectors);
        int x = draws.draw(register.places);
        if (register.hasInspector(i)) {
            now.post[i] = x;
        }
    }

    /** What a text told; it stays as it is until the next duchy. */
    private static final class Register {
        private int rate, places, words, singers, inspectors;
        private final int[] kind = new int[MOST_SINGERS];
        private final int[] home = new int[MOST_SINGERS];
        private final int[] means = new int[MOST_SINGERS];
        private final int[] known = new int[MOST_SINGERS];
        private final int[] firstPost = new int[MOST_INSPECTORS];

        void clear() {
            rate = 0;
            places = 0;
            words = 0;
            singers = 0;
            inspectors = 0;
        }

        void takeFrom(Register other) {
            rate = other.rate;
            places = other.places;
            words = other.words;
            singers = other.singers;
            inspectors = other.inspectors;
            System.arraycopy(other.kind, 0, kind, 0, MOST_SINGERS);
            System.arraycopy(other.home, 0, home, 0, MOST_SINGERS);
            System.arraycopy(other.means, 0, means, 0, MOST_SINGERS);
            System.arraycopy(other.known, 0, known, 0, MOST_SINGERS);
            System.arraycopy(other.firstPost, 0, firstPost, 0, MOST_INSPECTORS);
        }

        // Every duchy has a place or more, so none of them means no duchy.
        boolean isEmpty() {
            return places == 0;
        }

        boolean hasSinger(int s) {
            return s >= 0 && s < singers;
        }

        boolean hasPlace(int x) {
            return x >= 0 && x < places;
        }

        boolean hasInspector(int i) {
            return i >= 0 && i < inspectors;
        }

        boolean hasWord(int word) {
            return word >= 0 && word < words;
        }

        boolean hasAll(int set) {
            return (set & ~everyone()) == 0;
        }

        int everyone() {
            return (1 << singers) - 1;
        }

        int everyWord() {
            return (1 << words) - 1;
        }

        int knownBy(int set) {
            int all = 0;
            for (int s = 0; s < singers; s++) {
                if (isIn(s, set)) {
                    all |= known[s];
                }
            }
            return all;
        }

        void addSinger(int itsKind, int x, int pence, int itsWords) {
            if (singers < MOST_SINGERS) {
                kind[singers] = itsKind;
                home[singers] = x;
                means[singers] = pence;
                known[singers] = itsWords;
                singers++;
            }
        }

        void addInspector(int x) {
            if (inspectors < MOST_INSPECTORS) {
                firstPost[inspectors] = x;
                inspectors++;
            }
        }
    }

    /** The text, and what reads it up to its first fault. */
    private static final class Reader {
        private final int[] text = new int[MOST_LETTERS];
        private int length = 0, next = 0, flaw = 0, flawAt = NONE;

        boolean append(int letter) {
            if (length >= MOST_LETTERS) {
                return false;
            }
            text[length] = letter;
            length++;
            return true;
        }

        /** Empties the text into a register; answers the fault's number, 0 without one. */
        int readInto(Register into) {
            next = 0;
            flaw = 0;
            flawAt = NONE;
            into.clear();
            skipBlanks();
            for (int clause = 0; clause < MOST_LETTERS && next < length && flaw == 0; clause++) {
                readClause(into);
                skipBlanks();
            }
            length = 0;
            return flaw;
        }

        private void readClause(Register into) {
            int word = letterHere();
            boolean first = into.isEmpty();
            if (word != 'd' && (first || word != 's' && word != 'i')) {
                fail(MISPLACED, next);
            } else if (word == 'd' && !first
                    || word == 's' && into.singers == MOST_SINGERS
                    || word == 'i' && into.inspectors == MOST_INSPECTORS) {
                fail(TOO_MANY, next);
            } else {
                next++;
                readNumbers(word, into);
            }
        }

        private void readNumbers(int word, Register into) {
            if (word == 'd') {
                into.rate = readNumber(1, MOST_RATE);
                into.places = readNumber(1, MOST_PLACES);
                into.words = readNumber(1, MOST_WORDS);
            } else if (word == 's') {
                int kind = readNumber(0, HUMMER);
                int x = readNumber(0, into.places - 1);
                int pence = readNumber(0, MOST_TOLD_PURSE);
                into.addSinger(kind, x, pence, readNumber(0, into.everyWord()));
            } else {
                into.addInspector(readNumber(0, into.places - 1));
            }
            readEnd();
        }

        /** A number within bounds; behind a fault nothing is read any more. */
        private int readNumber(int least, int most) {
            if (flaw != 0) {
                return least;
            }
            skipBlanks();
            int start = next;
            int value = 0;
            while (next < length && isFigure(letterHere())) {
                // Four figures are a fault whatever they say, so more need not be summed.
                value = next - start < MOST_FIGURES ? value * 10 + letterHere() - '0' : value;
                next++;
            }
            if (next == start) {
                fail(MISPLACED, start);
            } else if (next - start > MOST_FIGURES || value < least || value > most) {
                fail(MISCOUNTED, start);
            }
            return flaw != 0 ? least : value;
        }

        private void readEnd() {
            if (flaw != 0) {
                return;
            }
            skipBlanks();
            if (letterHere() == ';') {
                next++;
            } else {
                fail(MISPLACED, next);
            }
        }

        private void skipBlanks() {
            while (next < length && letterHere() == ' ') {
                next++;
            }
        }

        private int letterHere() {
            return next >= 0 && next < length && next < MOST_LETTERS ? text[next] : NONE;
        }

        private static boolean isFigure(int letter) {
            return letter >= '0' && letter <= '9';
        }

        private void fail(int number, int where) {
            flaw = number;
            flawAt = where;
        }
    }

    /** All that verses and deeds change: who is where, sings, has what, and the tax on it. */
    private static final class Hall {
        private final Register register;
        private int rate = 0, verses = 0, treasury = 0, caught = 0;
        private final int[] at = new int[MOST_SINGERS];
        private final int[] purse = new int[MOST_SINGERS];
        // The how manieth voice of its place a singer is; NONE: does not sing.
        private final int[] turn = new int[MOST_SINGERS];
        private final int[] post = new int[MOST_INSPECTORS];

        Hall(Register register) {
            this.register = register;
        }

        void begin() {
            rate = register.rate;
            verses = 0;
            treasury = 0;
            caught = 0;
            for (int s = 0; s < MOST_SINGERS; s++) {
                at[s] = register.home[s];
                purse[s] = register.means[s];
                turn[s] = NONE;
            }
            System.arraycopy(register.firstPost, 0, post, 0, MOST_INSPECTORS);
        }

        void takeFrom(Hall other) {
            rate = other.rate;
            verses = other.verses;
            treasury = other.treasury;
            caught = other.caught;
            System.arraycopy(other.at, 0, at, 0, MOST_SINGERS);
            System.arraycopy(other.purse, 0, purse, 0, MOST_SINGERS);
            System.arraycopy(other.turn, 0, turn, 0, MOST_SINGERS);
            System.arraycopy(other.post, 0, post, 0, MOST_INSPECTORS);
        }

        boolean sings(int s) {
            return register.hasSinger(s) && turn[s] != NONE;
        }

        int whoSings() {
            int set = 0;
            for (int s = 0; s < register.singers; s++) {
                if (turn[s] != NONE) {
                    set |= 1 << s;
                }
            }
            return set;
        }

        int whoIsIn(int x) {
            int set = 0;
            for (int s = 0; s < register.singers; s++) {
                if (at[s] == x) {
                    set |= 1 << s;
                }
            }
            return set;
        }

        int voicesIn(int x) {
            return Integer.bitCount(whoIsIn(x) & whoSings());
        }

        int inspectorsIn(int x) {
            int there = 0;
            for (int i = 0; i < register.inspectors; i++) {
                if (post[i] == x) {
                    there++;
                }
            }
            return there;
        }

        int deafPlaces() {
            int set = 0;
            for (int x = 0; x < register.places; x++) {
                if (inspectorsIn(x) == 0) {
                    set |= 1 << x;
                }
            }
            return set;
        }

        int richest() {
            int best = NONE;
            int most = NONE;
            for (int s = 0; s < register.singers; s++) {
                if (purse[s] > most) {
                    best = s;
                    most = purse[s];
                }
            }
            return best;
        }

        /** What a singer would owe as a voice of a place, by a rate. */
        int priceBy(int r, int s, int voice, int x) {
            int plain = r * voice * voice;
            switch (register.hasSinger(s) ? register.kind[s] : CHILD) {
                case GENTRY: return 2 * plain;
                case CHILD: return 0;
                case HUMMER: return inspectorsIn(x) > 0 ? plain : plain / 2;
                default: return plain;
            }
        }

        int owedBy(int s, int r) {
            return sings(s) ? priceBy(r, s, turn[s], at[s]) : 0;
        }

        int owedIn(int x) {
            int sum = 0;
            for (int s = 0; s < register.singers; s++) {
                if (at[s] == x) {
                    sum += owedBy(s, rate);
                }
            }
            return sum;
        }

        int owedByAll() {
            int sum = 0;
            for (int s = 0; s < register.singers; s++) {
                sum += owedBy(s, rate);
            }
            return sum;
        }

        int paidByAll(int r) {
            int sum = 0;
            for (int s = 0; s < register.singers; s++) {
                sum += Math.min(purse[s], owedBy(s, r));
            }
            return sum;
        }

        /** What a set owes that joined in a place rising by numbers, with nobody else there. */
        int owedBySet(int set, int x) {
            int sum = 0;
            int voice = 0;
            for (int s = 0; s < register.singers; s++) {
                if (isIn(s, set)) {
                    sum += priceBy(rate, s, voice, x);
                    voice++;
                }
            }
            return sum;
        }

        int mostBorne(int set, int x) {
            int best = 0;
            for (int part = 0; part <= register.everyone(); part++) {
                if ((part & ~set) == 0 && Integer.bitCount(part) > Integer.bitCount(best) && canPay(part, x)) {
                    best = part;
                }
            }
            return best;
        }

        private boolean canPay(int set, int x) {
            int voice = 0;
            for (int s = 0; s < register.singers; s++) {
                if (isIn(s, set)) {
                    if (purse[s] < priceBy(rate, s, voice, x)) {
                        return false;
                    }
                    voice++;
                }
            }
            return true;
        }

        void letIn(int s) {
            if (register.hasSinger(s) && turn[s] == NONE) {
                turn[s] = voicesIn(at[s]);
            }
        }

        void silence(int s) {
            if (!sings(s)) {
                return;
            }
            for (int other = 0; other < register.singers; other++) {
                if (at[other] == at[s] && turn[other] > turn[s]) {
                    turn[other]--;
                }
            }
            turn[s] = NONE;
        }

        void move(int s, int x) {
            if (register.hasSinger(s) && at[s] != x) {
                silence(s);
                at[s] = x;
            }
        }

        void fill(int s, int pence) {
            if (register.hasSinger(s)) {
                purse[s] = Math.min(MOST_PURSE, purse[s] + pence);
            }
        }

        void singVerse() {
            int broke = 0;
            for (int s = 0; s < register.singers; s++) {
                int owed = owedBy(s, rate);
                if (purse[s] < owed) {
                    broke |= 1 << s;
                }
                takePence(s, Math.min(purse[s], owed));
            }
            // Who is hushed still counted as a voice in this verse, so this comes behind all payments.
            for (int s = 0; s < register.singers; s++) {
                if (isIn(s, broke)) {
                    silence(s);
                }
            }
            verses++;
        }

        private void takePence(int s, int pence) {
            purse[s] -= pence;
            treasury = Math.min(MOST_TREASURY, treasury + pence);
            if (pence > 0 && register.kind[s] == HUMMER && inspectorsIn(at[s]) > 0) {
                caught = Math.min(MOST_CAUGHT, caught + 1);
            }
        }
    }

    /** What can be undone: a ring, so that the oldest is lost without moving the rest. */
    private static final class Past {
        private final Hall[] ring = new Hall[MOST_UNDONE];
        private int top = 0, count = 0;

        Past(Register register) {
            for (int i = 0; i < MOST_UNDONE; i++) {
                ring[i] = new Hall(register);
            }
        }

        void forget() {
            count = 0;
        }

        void mark(Hall hall) {
            ring[top].takeFrom(hall);
            top = (top + 1) % MOST_UNDONE;
            count = Math.min(MOST_UNDONE, count + 1);
        }

        boolean restore(Hall hall) {
            if (count == 0) {
                return false;
            }
            top = (top + MOST_UNDONE - 1) % MOST_UNDONE;
            count--;
            hall.takeFrom(ring[top]);
            return true;
        }
    }

    private static final class Image {
        private final Hall hall;
        private int grain = 0;
        private boolean kept = false;

        Image(Register register) {
            hall = new Hall(register);
        }
    }

    private static final class Draws {
        private int grain = 0;

        int draw(int n) {
            grain = (int) ((grain * 1103515245L + 12345L) & 0x7fffffffL);
            return n > 0 ? grain / 65536 % n : 0;
        }
    }

    /** What was paid by an unknown set, and the book of purses. */
    private static final class Ledger {
        private final int[] paidAt = new int[MOST_PAID];
        private final int[] paid = new int[MOST_PAID];
        private final int[] owner = new int[MOST_ENTRIES];
        private final int[] pence = new int[MOST_ENTRIES];
        private int payments = 0, entries = 0;

        void clear() {
            payments = 0;
            entries = 0;
        }

        boolean addPayment(int x, int v) {
            if (payments >= MOST_PAID) {
                return false;
            }
            paidAt[payments] = x;
            paid[payments] = v;
            payments++;
            return true;
        }

        boolean addEntry(int s, int n) {
            if (entries >= MOST_ENTRIES) {
                return false;
            }
            owner[entries] = s;
            pence[entries] = n;
            entries++;
            return true;
        }

        int firstWrong(Hall hall) {
            for (int i = 0; i < entries; i++) {
                int s = owner[i];
                if (hall.register.hasSinger(s) && hall.purse[s] != pence[i]) {
                    return i;
                }
            }
            return NONE;
        }

        boolean fits(int set, Hall hall) {
            for (int i = 0; i < payments; i++) {
                if (hall.owedBySet(set, paidAt[i]) != paid[i]) {
                    return false;
                }
            }
            return true;
        }
    }

    /** The sets by which all that was paid is so. */
    private static final class Choirs {
        private int count = 0, common = NONE;
        private final int[] with = new int[MOST_SINGERS];

        void gather(Register register, Hall hall, Ledger ledger) {
            count = 0;
            common = NONE;
            for (int s = 0; s < MOST_SINGERS; s++) {
                with[s] = 0;
            }
            for (int set = 0; set <= register.everyone(); set++) {
                if (ledger.fits(set, hall)) {
                    add(set);
                }
            }
        }

        // NONE has every bit, so the first set alone is what is common to it.
        private void add(int set) {
            count++;
            common &= set;
            for (int s = 0; s < MOST_SINGERS; s++) {
                with[s] += set >> s & 1;
            }
        }

        int bestLip(Register register) {
            int best = NONE;
            int size = count;
            for (int s = 0; s < register.singers; s++) {
                int alike = Math.max(with[s], count - with[s]);
                if (alike < size) {
                    best = s;
                    size = alike;
                }
            }
            return best;
        }
    }

    /** The words shared out among a set that knows them all, with the fewest changes. */
    private static final class Sharing {
        private final Register register;
        // The fewest changes from a word on to the end, by the singer of that word.
        private final int[][] ahead = new int[MOST_WORDS][MOST_SINGERS];
        private final int[] row = new int[MOST_WORDS];
        private int changes = 0;

        Sharing(Register register) {
            this.register = register;
        }

        void share(int set) {
            for (int word = register.words - 1; word >= 0; word--) {
                for (int s = 0; s < register.singers; s++) {
                    boolean can = isIn(s, set) && isIn(word, register.known[s]);
                    ahead[word][s] = can ? fewestBehind(word + 1, s) : FAR;
                }
            }
            changes = fewestBehind(0, NONE);
            int last = NONE;
            for (int word = 0; word < register.words; word++) {
                last = bestFor(word, last);
                row[word] = last;
            }
        }

        private int fewestBehind(int word, int last) {
            if (!register.hasWord(word)) {
                return 0;
            }
            int s = bestFor(word, last);
            return register.hasSinger(s) ? costOf(word, s, last) : FAR;
        }

        private int bestFor(int word, int last) {
            int best = NONE;
            int least = FAR;
            for (int s = 0; s < register.singers; s++) {
                int cost = costOf(word, s, last);
                if (cost < least) {
                    best = s;
                    least = cost;
                }
            }
            return best;
        }

        private int costOf(int word, int s, int last) {
            return ahead[word][s] + (last == NONE || last == s ? 0 : 1);
        }
    }

    /** A set put into places for the least that all owe together. */
    private static final class Grouping {
        private static final int BITS = 3, DIGIT = 7, CODES = 4096;

        private final Register register;
        private final int[] members = new int[MOST_SINGERS];
        // What a singer owes depends only on how many are in each place already: these
        // counts, three bits a place, are the code; best is the least that is owed from there on.
        private final int[] best = new int[CODES];
        private final int[] placed = new int[MOST_SINGERS];
        private int size = 0, least = 0;

        Grouping(Register register) {
            this.register = register;
        }

        void group(int set, Hall hall) {
            size = 0;
            for (int s = 0; s < register.singers; s++) {
                placed[s] = NONE;
                if (isIn(s, set)) {
                    members[size] = s;
                    size++;
                }
            }
            // A code's followers are greater, so they are known ahead of it.
            for (int code = (1 << BITS * register.places) - 1; code >= 0; code--) {
                best[code] = leastFrom(code, hall);
            }
            least = best[0];
            int code = 0;
            for (int k = 0; k < size; k++) {
                int x = bestPlace(code, hall);
                placed[members[k]] = x;
                code += 1 << BITS * x;
            }
        }

        private int leastFrom(int code, Hall hall) {
            int k = placedIn(code);
            if (k >= size) {
                return k == size ? 0 : FAR;
            }
            return costOf(code, bestPlace(code, hall), hall);
        }

        private int bestPlace(int code, Hall hall) {
            int found = 0;
            int cost = costOf(code, 0, hall);
            for (int x = 1; x < register.places; x++) {
                int other = costOf(code, x, hall);
                if (other < cost) {
                    found = x;
                    cost = other;
                }
            }
            return found;
        }

        private int costOf(int code, int x, Hall hall) {
            int k = placedIn(code);
            int follower = code + (1 << BITS * x);
            if (k >= size || follower >= CODES) {
                return FAR;
            }
            int voice = code >> BITS * x & DIGIT;
            return hall.priceBy(hall.rate, members[k], voice, x) + best[follower];
        }

        private static int placedIn(int code) {
            int sum = 0;
            for (int x = 0; x < MOST_PLACES; x++) {
                sum += code >> BITS * x & DIGIT;
            }
            return sum;
        }
    }
}
