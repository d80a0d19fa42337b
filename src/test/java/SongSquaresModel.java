import java.util.ArrayDeque;
import java.util.ArrayList;
import java.util.Deque;
import java.util.List;
import java.util.Random;

/** Drawn runs of calls, each answered by the class and by a plain second model of the document. */
public final class SongSquaresModel {
    private static final int NONE = -1, UNKNOWN = -1000000001, OUTSIDE = -1000000002, NOT = -1000000003, FULL = -1000000004;
    private static final int RUNS = 1000, CALLS = 512;

    private static final String[] NAMES = {"feed", "duchy", "fault", "told", "singer", "place", "verse", "join", "hush", "go",
        "give", "rate", "inspect", "drift", "undo", "treasury", "lasts", "more", "bears", "shared", "groups", "rates", "dry",
        "pay", "write", "tear", "judge", "seed", "keep", "goBack"};

    /** How often each call is drawn: joining most, so that there is something to ask for; never a letter of a text. */
    private static final int[] WEIGHTS = {0, 0, 1, 10, 4, 3, 3, 8, 2, 2, 2, 2, 2, 2, 3, 2, 3, 3, 4, 4, 4, 3, 1, 4, 4, 1, 4, 1, 1, 1};

    private static final String[] TEXTS = {"", " ", "d2 2 5;s0 0 20 3; s3 1 999 31 ;i1;", "d9 4 9;s0 3 0 511;i3;i0;i0;i0;",
        "d1 1 1;s0 0 0 0;s0 0 0 0;s0 0 0 0;s0 0 0 0;s0 0 0 0;s0 0 0 0;s0 0 0 0;"};

    public static void main(String[] args) {
        int wrong = 0;
        for (int run = 0; run < RUNS && wrong < 20; run++) {
            wrong += oneRun(run);
        }
        int texts = 0;
        for (String text : TEXTS) {
            texts += nearTexts(text);
        }
        wrong += texts;
        System.out.println(RUNS + " runs against the model and texts a letter apart, " + wrong + " answers not as due");
        if (wrong != 0) {
            System.exit(1);
        }
    }

    /** Every text that a letter put in, changed, left out, or an early end makes of one. */
    private static int nearTexts(String text) {
        int wrong = 0;
        for (int at = 0; at <= text.length(); at++) {
            String head = text.substring(0, at);
            String tail = text.substring(at);
            String rest = tail.isEmpty() ? tail : tail.substring(1);
            wrong += read(head);
            wrong += read(head + rest);
            for (int letter = 0; letter < 256; letter++) {
                wrong += read(head + (char) letter + tail);
                wrong += read(head + (char) letter + rest);
            }
        }
        return wrong;
    }

    private static int read(String text) {
        SongSquares song = new SongSquares();
        Model model = new Model();
        for (int i = 0; i < text.length(); i++) {
            song.feed(text.charAt(i));
            model.feed(text.charAt(i));
        }
        boolean same = song.duchy() == model.duchy() && song.fault() == model.faultAt;
        for (int what = 0; what < 5; what++) {
            same &= song.told(what) == model.told(what);
        }
        if (!same) {
            System.out.println("another reading of the text " + text);
        }
        return same ? 0 : 1;
    }

    /** Calls that bring a run near the bounds: of verses, of purses, of what can be undone. */
    private static int[][] prelude(int run) {
        int[][] calls = new int[run % 6 == 3 ? 151 : run % 6 == 4 ? 60 : 0][];
        for (int i = 0; i < calls.length; i++) {
            calls[i] = run % 6 == 3 ? new int[] {6, i == 150 ? run % 2 : 60, 0, 0} : new int[] {10, i % 6, 999, 0};
        }
        return calls;
    }

    private static int oneRun(int run) {
        Random random = new Random(run);
        SongSquares song = new SongSquares();
        Model model = new Model();
        StringBuilder waiting = new StringBuilder(run % 5 == 0 ? "" : text(random));
        boolean tell = waiting.length() > 0;
        int[][] prelude = prelude(run);
        int led = 0;
        for (int call = 0; call < CALLS; call++) {
            int which;
            int[] a = {0, 0, 0};
            if (waiting.length() > 0) {
                which = 0;
                a[0] = waiting.charAt(0);
                waiting.deleteCharAt(0);
            } else if (tell) {
                which = 1;
                tell = false;
            } else if (led < prelude.length) {
                which = prelude[led][0];
                System.arraycopy(prelude[led], 1, a, 0, 3);
                led++;
            } else if (random.nextInt(150) == 0) {
                which = 0;
                waiting.append(text(random));
                tell = true;
                a[0] = ' ';
            } else {
                which = drawnCall(random);
                arguments(NAMES[which], a, random, model);
            }
            int got = ofClass(song, which, a);
            int want = model.answer(which, a);
            if (got != want) {
                System.out.println("run " + run + ", call " + call + ": " + NAMES[which] + "(" + a[0] + ", " + a[1] + ", " + a[2]
                    + ") answered " + got + ", due is " + want);
                return 1;
            }
        }
        return 0;
    }

    private static String text(Random random) {
        int n = 1 + random.nextInt(4);
        int l = 1 + random.nextInt(9);
        StringBuilder b = new StringBuilder();
        b.append('d').append(1 + random.nextInt(9)).append(' ').append(n).append(' ').append(l).append(';');
        int singers = random.nextInt(10) == 0 ? random.nextInt(9) : 4 + random.nextInt(4);
        int purse = random.nextBoolean() ? 1000 : 60;
        for (int s = 0; s < singers; s++) {
            b.append('s').append(random.nextInt(4)).append(' ').append(random.nextInt(n)).append(' ');
            b.append(random.nextInt(purse)).append(' ').append(random.nextInt(1 << l)).append(';');
        }
        int inspectors = random.nextInt(10) == 0 ? random.nextInt(6) : random.nextInt(5);
        for (int i = 0; i < inspectors; i++) {
            b.append('i').append(random.nextInt(n)).append(random.nextBoolean() ? " ;" : ";");
        }
        if (random.nextInt(6) == 0) {
            String letters = "dsi; 0123456789x";
            for (int i = 1 + random.nextInt(2); i > 0; i--) {
                int at = random.nextInt(b.length());
                char letter = letters.charAt(random.nextInt(letters.length()));
                switch (random.nextInt(4)) {
                    case 0: b.insert(at, letter); break;
                    case 1: b.setCharAt(at, letter); break;
                    case 2: b.deleteCharAt(at); break;
                    default: b.setLength(at + 1); break;
                }
            }
        }
        return b.toString();
    }

    private static int drawnCall(Random random) {
        int sum = 0;
        for (int weight : WEIGHTS) {
            sum += weight;
        }
        int left = random.nextInt(sum);
        for (int which = 0; which < WEIGHTS.length; which++) {
            left -= WEIGHTS[which];
            if (left < 0) {
                return which;
            }
        }
        return 0;
    }

    /** Mostly one of so many, now and then one a little beyond. */
    private static int oneOf(int many, Random random) {
        return random.nextInt(15) == 0 || many == 0 ? random.nextInt(many + 3) - 1 : random.nextInt(many);
    }

    private static int part(int singers, Random random) {
        int set = random.nextInt(1 << singers) | (random.nextBoolean() ? random.nextInt(1 << singers) : 0);
        return random.nextInt(15) == 0 ? set + (1 << random.nextInt(32)) : set;
    }

    private static int rarely(int often, int seldom, Random random) {
        return random.nextInt(15) == 0 ? seldom : often;
    }

    private static void arguments(String name, int[] a, Random random, Model model) {
        World w = model.w;
        int singers = w.people.size();
        a[0] = oneOf(singers, random);
        a[1] = oneOf(w.places, random);
        switch (name) {
            case "told": a[0] = oneOf(20, random); break;
            case "singer": a[1] = oneOf(6, random); break;
            case "place": a[0] = oneOf(w.places, random); a[1] = oneOf(4, random); break;
            case "verse": case "drift": a[0] = random.nextInt(6) == 0 ? random.nextInt(64) : 1 + random.nextInt(4); break;
            case "give": a[1] = rarely(1 + random.nextInt(40), random.nextInt(1002), random); break;
            case "rate": a[0] = rarely(1 + random.nextInt(9), random.nextInt(12) - 1, random); break;
            case "inspect": a[0] = oneOf(w.inspectors.size(), random); break;
            case "treasury": a[0] = random.nextInt(random.nextBoolean() ? 10 : 203) - (random.nextInt(20) == 0 ? 1 : 0); break;
            case "bears": a[0] = part(singers, random); a[2] = oneOf(2, random); break;
            case "shared": a[0] = part(singers, random); a[1] = oneOf(model.words + 1, random) - 1; break;
            case "groups": a[0] = part(singers, random); a[1] = oneOf(singers + 1, random) - 1; break;
            // Nine rates by all that is owed by one of them: most answers lie in between.
            case "rates": a[0] = rarely(random.nextInt(9 * model.owed(NONE) / Math.max(1, w.rate) + 2), random.nextInt(), random); break;
            case "dry": a[0] = random.nextInt(random.nextBoolean() ? 6 : 63) - 1; a[1] = random.nextInt(103) - 1; break;
            case "pay": a[0] = oneOf(w.places, random); a[1] = rarely(fitting(a[0], random, model), random.nextInt(10002) - 1, random); break;
            case "write": a[1] = rarely(model.singer(a[0]) ? w.people.get(a[0]).purse : 0, random.nextInt(10002) - 1, random); break;
            case "seed": a[0] = rarely(random.nextInt() & Integer.MAX_VALUE, random.nextInt(), random); break;
            case "keep": case "goBack": a[0] = oneOf(2, random); break;
            default: break;
        }
        if (random.nextInt(200) == 0) {
            a[random.nextInt(3)] = random.nextBoolean() ? Integer.MIN_VALUE : Integer.MAX_VALUE;
        }
    }

    /** What one and the same set, the same for the whole run, would owe in a place: choirs that are not all ruled out. */
    private static int fitting(int x, Random random, Model model) {
        int all = (1 << model.w.people.size()) - 1;
        return model.w.row((random.nextInt(6) == 0 ? random.nextInt() : 0x35) & all, x);
    }

    private static int ofClass(SongSquares x, int which, int[] a) {
        switch (NAMES[which]) {
            case "feed": return x.feed(a[0]);
            case "duchy": return x.duchy();
            case "fault": return x.fault();
            case "told": return x.told(a[0]);
            case "singer": return x.singer(a[0], a[1]);
            case "place": return x.place(a[0], a[1]);
            case "verse": return x.verse(a[0]);
            case "join": return x.join(a[0]);
            case "hush": return x.hush(a[0]);
            case "go": return x.go(a[0], a[1]);
            case "give": return x.give(a[0], a[1]);
            case "rate": return x.rate(a[0]);
            case "inspect": return x.inspect(a[0], a[1]);
            case "drift": return x.drift(a[0]);
            case "undo": return x.undo();
            case "treasury": return x.treasury(a[0]);
            case "lasts": return x.lasts(a[0]);
            case "more": return x.more(a[0], a[1]);
            case "bears": return x.bears(a[0], a[1], a[2]);
            case "shared": return x.shared(a[0], a[1]);
            case "groups": return x.groups(a[0], a[1]);
            case "rates": return x.rates(a[0]);
            case "dry": return x.dry(a[0], a[1]);
            case "pay": return x.pay(a[0], a[1]);
            case "write": return x.write(a[0], a[1]);
            case "tear": return x.tear();
            case "judge": return x.judge();
            case "seed": return x.seed(a[0]);
            case "keep": return x.keep(a[0]);
            default: return x.goBack(a[0]);
        }
    }

    private static final class Person {
        int kind, place, purse, words;

        Person copy() {
            Person p = new Person();
            p.kind = kind;
            p.place = place;
            p.purse = purse;
            p.words = words;
            return p;
        }
    }

    /** Section 2, held as the document tells it: a row of voices for each place. */
    private static final class World {
        int rate, verses, treasury, caught, places;
        List<Person> people = new ArrayList<>();
        List<Integer> inspectors = new ArrayList<>();
        List<List<Integer>> voices = new ArrayList<>();

        World copy() {
            World w = new World();
            w.rate = rate;
            w.verses = verses;
            w.treasury = treasury;
            w.caught = caught;
            w.places = places;
            people.forEach(p -> w.people.add(p.copy()));
            w.inspectors.addAll(inspectors);
            voices.forEach(v -> w.voices.add(new ArrayList<>(v)));
            return w;
        }

        boolean sings(int s) {
            return voices.get(people.get(s).place).contains(s);
        }

        int owes(int s, int k, int x, int r) {
            int that = r * k * k;
            int kind = people.get(s).kind;
            return kind == 0 ? that : kind == 1 ? that * 2 : kind == 2 ? 0 : inspectors.contains(x) ? that : that / 2;
        }

        int owesNow(int s, int r) {
            int x = people.get(s).place;
            int k = voices.get(x).indexOf(s);
            return k < 0 ? 0 : owes(s, k, x, r);
        }

        int row(int set, int x) {
            int sum = 0;
            int k = 0;
            for (int s = 0; s < people.size(); s++) {
                if ((set & 1 << s) != 0) {
                    sum += owes(s, k++, x, rate);
                }
            }
            return sum;
        }

        void hush(int s) {
            voices.get(people.get(s).place).remove((Integer) s);
        }

        void join(int s) {
            if (!sings(s)) {
                voices.get(people.get(s).place).add(s);
            }
        }

        void go(int s, int x) {
            if (people.get(s).place != x) {
                hush(s);
                people.get(s).place = x;
            }
        }

        void give(int s, int n) {
            people.get(s).purse = Math.min(9999, people.get(s).purse + n);
        }

        void verse() {
            List<Integer> broke = new ArrayList<>();
            for (int x = 0; x < places; x++) {
                for (int k = 0; k < voices.get(x).size(); k++) {
                    int s = voices.get(x).get(k);
                    Person p = people.get(s);
                    int owed = owes(s, k, x, rate);
                    int paid = owed;
                    if (p.purse < owed) {
                        paid = p.purse;
                        broke.add(s);
                    }
                    p.purse -= paid;
                    treasury = Math.min(999999, treasury + paid);
                    if (p.kind == 3 && paid >= 1 && inspectors.contains(x)) {
                        caught = Math.min(9999, caught + 1);
                    }
                }
            }
            broke.forEach(this::hush);
            verses++;
        }
    }

    private static final class Model {
        World w = new World();
        int words = 0;
        long seed = 0;
        String text = "";
        int faultAt = NONE, faultNumber = 0;
        Deque<World> past = new ArrayDeque<>();
        World[] images = new World[2];
        long[] imageSeeds = new long[2];
        List<int[]> paid = new ArrayList<>();
        List<int[]> book = new ArrayList<>();

        boolean singer(int s) {
            return s >= 0 && s < w.people.size();
        }

        boolean place(int x) {
            return x >= 0 && x < w.places;
        }

        boolean set(int set) {
            return set >= 0 && set < 1 << w.people.size();
        }

        boolean within(int v, int least, int most) {
            return v >= least && v <= most;
        }

        void did() {
            past.push(w.copy());
            if (past.size() > 16) {
                past.removeLast();
            }
        }

        int answer(int which, int[] a) {
            switch (NAMES[which]) {
                case "feed": return feed(a[0]);
                case "duchy": return duchy();
                case "fault": return faultAt;
                case "told": return told(a[0]);
                case "singer": return ofSinger(a[0], a[1]);
                case "place": return ofPlace(a[0], a[1]);
                case "verse": return verses(a[0], false);
                case "drift": return verses(a[0], true);
                case "treasury": return treasury(a[0]);
                case "lasts": return lasts(a[0]);
                case "more": return more(a[0], a[1]);
                case "bears": return bears(a[0], a[1], a[2]);
                case "shared": return shared(a[0], a[1]);
                case "groups": return groups(a[0], a[1]);
                case "rates": return rates(a[0]);
                case "dry": return dry(a[0], a[1]);
                case "pay": return pay(a[0], a[1]);
                case "write": return write(a[0], a[1]);
                case "tear": return tear();
                case "judge": return judge();
                case "seed": return seed(a[0]);
                case "keep": return keep(a[0]);
                case "goBack": return goBack(a[0]);
                default: return deed(NAMES[which], a[0], a[1]);
            }
        }

        int feed(int letter) {
            if (!within(letter, 0, 255)) {
                return OUTSIDE;
            }
            if (text.length() == 240) {
                return FULL;
            }
            text += (char) letter;
            return text.length();
        }

        /** Reads by what may stand where: each clause is a word, so many bounds, an end. */
        int duchy() {
            String t = text;
            text = "";
            faultAt = NONE;
            faultNumber = 0;
            World fresh = new World();
            int[] length = {0};
            int at = blanks(t, 0);
            while (at < t.length() && faultNumber == 0) {
                at = clause(t, at, fresh, length);
                at = faultNumber == 0 ? blanks(t, at) : at;
            }
            if (faultNumber != 0) {
                faultAt = at;
                return -10 - faultNumber;
            }
            for (int x = 0; x < fresh.places; x++) {
                fresh.voices.add(new ArrayList<>());
            }
            w = fresh;
            words = length[0];
            paid.clear();
            book.clear();
            past.clear();
            images = new World[2];
            return w.people.size();
        }

        static int blanks(String t, int at) {
            while (at < t.length() && t.charAt(at) == ' ') {
                at++;
            }
            return at;
        }

        int clause(String t, int at, World fresh, int[] length) {
            char word = t.charAt(at);
            int top = fresh.places - 1;
            int[][] bounds;
            if (fresh.places == 0 ? word != 'd' : "dsi".indexOf(word) < 0) {
                faultNumber = 1;
                return at;
            } else if (word == 'd') {
                bounds = new int[][] {{1, 9}, {1, 4}, {1, 9}};
            } else if (word == 's') {
                bounds = new int[][] {{0, 3}, {0, top}, {0, 999}, {0, (1 << length[0]) - 1}};
            } else {
                bounds = new int[][] {{0, top}};
            }
            if (word == 'd' && fresh.places > 0 || word == 's' && fresh.people.size() == 7 || word == 'i' && fresh.inspectors.size() == 4) {
                faultNumber = 3;
                return at;
            }
            at++;
            int[] numbers = new int[bounds.length];
            for (int i = 0; i < bounds.length; i++) {
                at = blanks(t, at);
                int end = at;
                while (end < t.length() && Character.isDigit(t.charAt(end))) {
                    end++;
                }
                if (end == at) {
                    faultNumber = 1;
                    return at;
                }
                numbers[i] = end - at > 3 ? 1000 : Integer.parseInt(t.substring(at, end));
                if (!within(numbers[i], bounds[i][0], bounds[i][1])) {
                    faultNumber = 2;
                    return at;
                }
                at = end;
            }
            at = blanks(t, at);
            if (at >= t.length() || t.charAt(at) != ';') {
                faultNumber = 1;
                return at;
            }
            put(word, numbers, fresh, length);
            return at + 1;
        }

        static void put(char word, int[] numbers, World fresh, int[] length) {
            if (word == 'd') {
                fresh.rate = numbers[0];
                fresh.places = numbers[1];
                length[0] = numbers[2];
            } else if (word == 's') {
                Person p = new Person();
                p.kind = numbers[0];
                p.place = numbers[1];
                p.purse = numbers[2];
                p.words = numbers[3];
                fresh.people.add(p);
            } else {
                fresh.inspectors.add(numbers[0]);
            }
        }

        int told(int what) {
            switch (what) {
                case 0: return w.rate;
                case 1: return w.places;
                case 2: return words;
                case 3: return w.people.size();
                case 4: return w.inspectors.size();
                case 5: return text.length();
                case 6: return w.verses;
                case 7: return singing();
                case 8: return w.treasury;
                case 9: return w.caught;
                case 10: return owed(NONE);
                case 11: return deaf();
                case 12: return richest();
                case 13: return few();
                case 14: return paid.size();
                case 15: return choirs().size();
                case 16: return choirs().stream().reduce((p, q) -> p & q).orElse(NONE);
                case 17: return lip();
                case 18: return book.size();
                case 19: return past.size();
                default: return OUTSIDE;
            }
        }

        int singing() {
            int set = 0;
            for (List<Integer> row : w.voices) {
                for (int s : row) {
                    set |= 1 << s;
                }
            }
            return set;
        }

        int owed(int x) {
            int sum = 0;
            for (int s = 0; s < w.people.size(); s++) {
                sum += x == NONE || w.people.get(s).place == x ? w.owesNow(s, w.rate) : 0;
            }
            return sum;
        }

        int deaf() {
            int set = 0;
            for (int x = 0; x < w.places; x++) {
                set |= w.inspectors.contains(x) ? 0 : 1 << x;
            }
            return set;
        }

        int richest() {
            int best = NONE;
            for (int s = w.people.size() - 1; s >= 0; s--) {
                if (best == NONE || w.people.get(s).purse >= w.people.get(best).purse) {
                    best = s;
                }
            }
            return best;
        }

        int few() {
            for (int size = 1; size <= w.people.size(); size++) {
                for (int set = 0; set < 1 << w.people.size(); set++) {
                    int all = 0;
                    for (int s = 0; s < w.people.size(); s++) {
                        all |= (set & 1 << s) != 0 ? w.people.get(s).words : 0;
                    }
                    if (Integer.bitCount(set) == size && all == (1 << words) - 1) {
                        return set;
                    }
                }
            }
            return NONE;
        }

        List<Integer> choirs() {
            List<Integer> fitting = new ArrayList<>();
            for (int set = 0; set < 1 << w.people.size(); set++) {
                int choir = set;
                if (paid.stream().allMatch(p -> w.row(choir, p[0]) == p[1])) {
                    fitting.add(set);
                }
            }
            return fitting;
        }

        int lip() {
            List<Integer> fitting = choirs();
            int best = NONE;
            int least = Integer.MAX_VALUE;
            for (int s = 0; s < w.people.size(); s++) {
                int bit = 1 << s;
                int in = (int) fitting.stream().filter(c -> (c & bit) != 0).count();
                int out = fitting.size() - in;
                if (in > 0 && out > 0 && Math.max(in, out) < least) {
                    best = s;
                    least = Math.max(in, out);
                }
            }
            return best;
        }

        int ofSinger(int s, int what) {
            if (!singer(s)) {
                return UNKNOWN;
            }
            Person p = w.people.get(s);
            switch (what) {
                case 0: return p.kind;
                case 1: return p.place;
                case 2: return p.purse;
                case 3: return p.words;
                case 4: return w.voices.get(p.place).indexOf(s);
                case 5: return w.owesNow(s, w.rate);
                default: return OUTSIDE;
            }
        }

        int ofPlace(int x, int what) {
            if (!place(x)) {
                return UNKNOWN;
            }
            int set = 0;
            for (int s = 0; s < w.people.size(); s++) {
                boolean counts = what == 0 ? w.people.get(s).place == x : w.voices.get(x).contains(s);
                set |= counts ? 1 << s : 0;
            }
            switch (what) {
                case 0:
                case 1: return set;
                case 2: return owed(x);
                case 3: return (int) w.inspectors.stream().filter(i -> i == x).count();
                default: return OUTSIDE;
            }
        }

        int draw(int n) {
            seed = (seed * 1103515245L + 12345L) % (1L << 31);
            return (int) (seed / 65536 % n);
        }

        int verses(int n, boolean drawn) {
            if (!within(n, 1, 60)) {
                return OUTSIDE;
            }
            if (w.places == 0) {
                return NOT;
            }
            if (w.verses > 9000) {
                return FULL;
            }
            did();
            for (int i = 0; i < n; i++) {
                if (drawn && !w.people.isEmpty()) {
                    int on = draw(5);
                    int s = draw(w.people.size());
                    if (on == 0) {
                        w.join(s);
                    } else if (on == 1) {
                        w.hush(s);
                    } else if (on == 2) {
                        w.go(s, draw(w.places));
                    } else if (on == 3) {
                        w.give(s, draw(50));
                    } else if (!w.inspectors.isEmpty()) {
                        int who = draw(w.inspectors.size());
                        w.inspectors.set(who, draw(w.places));
                    }
                }
                w.verse();
            }
            return w.treasury;
        }

        int deed(String name, int a, int b) {
            int refusal = refusal(name, a, b);
            if (refusal != 0) {
                return refusal;
            }
            if (name.equals("undo")) {
                w = past.pop();
                return past.size();
            }
            did();
            int was;
            switch (name) {
                case "join":
                    w.join(a);
                    return w.voices.get(w.people.get(a).place).size() - 1;
                case "hush":
                    w.hush(a);
                    return w.voices.get(w.people.get(a).place).size();
                case "go":
                    was = w.people.get(a).place;
                    w.go(a, b);
                    return was;
                case "give":
                    w.give(a, b);
                    return w.people.get(a).purse;
                case "rate":
                    was = w.rate;
                    w.rate = a;
                    return was;
                default:
                    return w.inspectors.set(a, b);
            }
        }

        int refusal(String name, int a, int b) {
            switch (name) {
                case "join": return !singer(a) ? UNKNOWN : w.sings(a) ? NOT : 0;
                case "hush": return !singer(a) ? UNKNOWN : w.sings(a) ? 0 : NOT;
                case "go": return !singer(a) || !place(b) ? UNKNOWN : w.people.get(a).place == b ? NOT : 0;
                case "give": return !singer(a) ? UNKNOWN : !within(b, 1, 999) ? OUTSIDE : 0;
                case "rate": return !within(a, 1, 9) ? OUTSIDE : w.places == 0 ? NOT : 0;
                case "inspect":
                    return !within(a, 0, w.inspectors.size() - 1) || !place(b) ? UNKNOWN : w.inspectors.get(a) == b ? NOT : 0;
                default: return past.isEmpty() ? NOT : 0;
            }
        }

        int treasury(int n) {
            if (!within(n, 0, 200)) {
                return OUTSIDE;
            }
            if (w.places == 0) {
                return NOT;
            }
            World later = w.copy();
            for (int i = 0; i < n; i++) {
                later.verse();
            }
            return later.treasury;
        }

        int lasts(int s) {
            if (!singer(s)) {
                return UNKNOWN;
            }
            World later = w.copy();
            for (int i = 0; i <= 500; i++) {
                if (!later.sings(s)) {
                    return i;
                }
                later.verse();
            }
            return NONE;
        }

        int more(int s, int x) {
            if (!singer(s) || !place(x)) {
                return UNKNOWN;
            }
            if (w.sings(s)) {
                return NOT;
            }
            int ahead = owed(NONE);
            World saved = w;
            w = w.copy();
            w.go(s, x);
            w.join(s);
            int then = owed(NONE);
            w = saved;
            return then - ahead;
        }

        int bears(int set, int x, int what) {
            if (!set(set) || !place(x)) {
                return UNKNOWN;
            }
            if (!within(what, 0, 1)) {
                return OUTSIDE;
            }
            for (int size = w.people.size(); size > 0; size--) {
                for (int part = 0; part < 1 << w.people.size(); part++) {
                    if (Integer.bitCount(part) == size && (part | set) == set && canPay(part, x)) {
                        return what == 0 ? size : part;
                    }
                }
            }
            return 0;
        }

        boolean canPay(int part, int x) {
            int k = 0;
            boolean all = true;
            for (int s = 0; s < w.people.size(); s++) {
                if ((part & 1 << s) != 0) {
                    all &= w.owes(s, k++, x, w.rate) <= w.people.get(s).purse;
                }
            }
            return all;
        }

        int shared(int set, int word) {
            if (!set(set)) {
                return UNKNOWN;
            }
            if (word != NONE && !within(word, 0, words - 1)) {
                return OUTSIDE;
            }
            if (w.places == 0) {
                return NOT;
            }
            for (int changes = 0; changes < words; changes++) {
                int[] row = new int[words];
                if (rowWith(set, 0, changes, row)) {
                    return word == NONE ? changes : row[word];
                }
            }
            return NONE;
        }

        /** Whether words from one on can be sung with at most so many changes; the first such row. */
        boolean rowWith(int set, int word, int changes, int[] row) {
            if (changes < 0) {
                return false;
            }
            if (word == words) {
                return true;
            }
            for (int s = 0; s < w.people.size(); s++) {
                if ((set & 1 << s) != 0 && (w.people.get(s).words & 1 << word) != 0) {
                    row[word] = s;
                    if (rowWith(set, word + 1, changes - (word > 0 && row[word - 1] != s ? 1 : 0), row)) {
                        return true;
                    }
                }
            }
            return false;
        }

        int groups(int set, int s) {
            if (!set(set) || s != NONE && !singer(s)) {
                return UNKNOWN;
            }
            if (w.places == 0) {
                return NOT;
            }
            int[] best = {Integer.MAX_VALUE};
            int[] bestPlaces = new int[7];
            tryGroups(set, 0, new int[7], best, bestPlaces);
            return s == NONE ? best[0] : (set & 1 << s) != 0 ? bestPlaces[s] : NONE;
        }

        void tryGroups(int set, int s, int[] places, int[] best, int[] bestPlaces) {
            if (s == w.people.size()) {
                int sum = 0;
                for (int x = 0; x < w.places; x++) {
                    int there = 0;
                    for (int t = 0; t < s; t++) {
                        there |= (set & 1 << t) != 0 && places[t] == x ? 1 << t : 0;
                    }
                    sum += w.row(there, x);
                }
                if (sum < best[0]) {
                    best[0] = sum;
                    System.arraycopy(places, 0, bestPlaces, 0, 7);
                }
                return;
            }
            for (int x = 0; x < ((set & 1 << s) != 0 ? w.places : 1); x++) {
                places[s] = x;
                tryGroups(set, s + 1, places, best, bestPlaces);
            }
        }

        int rates(int v) {
            if (!within(v, 0, 999999)) {
                return OUTSIDE;
            }
            for (int r = 1; r <= 9; r++) {
                World then = w.copy();
                then.rate = r;
                int purses = then.people.stream().mapToInt(p -> p.purse).sum();
                then.verse();
                if (purses - then.people.stream().mapToInt(p -> p.purse).sum() >= v) {
                    return r;
                }
            }
            return NONE;
        }

        int dry(int n, int q) {
            if (!within(n, 0, 60) || !within(q, 0, 100)) {
                return OUTSIDE;
            }
            return n == 0 ? 1000000000 : (int) ((long) dry(n - 1, q) * q / 100);
        }

        int pay(int x, int v) {
            if (!place(x)) {
                return UNKNOWN;
            }
            if (!within(v, 0, 9999)) {
                return OUTSIDE;
            }
            if (paid.size() == 6) {
                return FULL;
            }
            paid.add(new int[] {x, v});
            return paid.size();
        }

        int write(int s, int pence) {
            if (!singer(s)) {
                return UNKNOWN;
            }
            if (!within(pence, 0, 9999)) {
                return OUTSIDE;
            }
            if (book.size() == 15) {
                return FULL;
            }
            book.add(new int[] {s, pence});
            return book.size();
        }

        int tear() {
            int had = paid.size() + book.size();
            paid.clear();
            book.clear();
            return had;
        }

        int judge() {
            for (int i = 0; i < book.size(); i++) {
                if (w.people.get(book.get(i)[0]).purse != book.get(i)[1]) {
                    return i;
                }
            }
            return NONE;
        }

        int seed(int v) {
            if (v < 0) {
                return OUTSIDE;
            }
            int was = (int) seed;
            seed = v;
            return was;
        }

        int keep(int i) {
            if (!within(i, 0, 1)) {
                return UNKNOWN;
            }
            images[i] = w.copy();
            imageSeeds[i] = seed;
            past.clear();
            return 1;
        }

        int goBack(int i) {
            if (!within(i, 0, 1)) {
                return UNKNOWN;
            }
            if (images[i] == null) {
                return NOT;
            }
            w = images[i].copy();
            seed = imageSeeds[i];
            past.clear();
            return 1;
        }
    }
}
