/** Every promise of the document by its number: ordinary inputs, edges, wrong inputs. */
public final class SongSquaresPromises {
    private static final int NONE = -1, UNKNOWN = -1000000001, OUTSIDE = -1000000002, NOT = -1000000003, FULL = -1000000004;
    private static final int LEAST = Integer.MIN_VALUE, MOST = Integer.MAX_VALUE;
    /** Rate 2, two places, five words; an inspector in place 1. */
    private static final String VILLAGE = "d2 2 5;s0 0 20 3;s1 0 50 6;s3 0 9 12;s2 1 0 31;s0 1 100 24;i1;";

    private static int wrong = 0;
    private static int checks = 0;

    private static void due(int promise, String what, int got, int want) {
        checks++;
        if (got != want) {
            wrong++;
            System.out.println("promise " + promise + ": " + what + " answered " + got + ", due is " + want);
        }
    }

    private static int tell(SongSquares song, String text) {
        for (int i = 0; i < text.length(); i++) {
            song.feed(text.charAt(i));
        }
        return song.duchy();
    }

    private static SongSquares told(String text) {
        SongSquares song = new SongSquares();
        tell(song, text);
        return song;
    }

    private static SongSquares singing(String text, int... singers) {
        SongSquares song = told(text);
        for (int s : singers) {
            song.join(s);
        }
        return song;
    }

    public static void main(String[] args) {
        newObject();
        feed();
        duchy();
        duchyForgets();
        faults();
        toldNumbers();
        toldChoirs();
        singer();
        place();
        verse();
        verseCounts();
        join();
        hush();
        go();
        give();
        rate();
        inspect();
        drift();
        undo();
        treasury();
        lasts();
        more();
        bears();
        shared();
        groups();
        rates();
        dry();
        pay();
        write();
        tear();
        judge();
        seed();
        keep();
        goBack();
        System.out.println(checks + " checks, " + wrong + " wrong");
        if (wrong != 0) {
            System.exit(1);
        }
    }

    private static void newObject() {
        SongSquares song = new SongSquares();
        int[] empty = {0, 0, 0, 0, 0, 0, 0, 0, 0, 0, 0, 0, NONE, NONE, 0, 1, 0, NONE, 0, 0};
        for (int what = 0; what < empty.length; what++) {
            due(1, "told(" + what + ")", song.told(what), empty[what]);
        }
        due(1, "fault()", song.fault(), NONE);
        due(1, "singer(0, 0)", song.singer(0, 0), UNKNOWN);
        due(1, "place(0, 0)", song.place(0, 0), UNKNOWN);
        due(1, "join(0)", song.join(0), UNKNOWN);
        due(1, "inspect(0, 0)", song.inspect(0, 0), UNKNOWN);
        due(1, "pay(0, 0)", song.pay(0, 0), UNKNOWN);
        due(1, "write(0, 0)", song.write(0, 0), UNKNOWN);
        due(1, "undo()", song.undo(), NOT);
        due(1, "tear()", song.tear(), 0);
        due(1, "judge()", song.judge(), NONE);
        due(1, "goBack(0)", song.goBack(0), NOT);
        due(1, "seed(1)", song.seed(1), 0);
    }

    private static void feed() {
        SongSquares song = new SongSquares();
        due(2, "feed(-1)", song.feed(-1), OUTSIDE);
        due(2, "feed(256)", song.feed(256), OUTSIDE);
        due(2, "feed(least)", song.feed(LEAST), OUTSIDE);
        due(2, "feed(most)", song.feed(MOST), OUTSIDE);
        due(2, "letters", song.told(5), 0);
        due(2, "feed(0)", song.feed(0), 1);
        due(2, "feed(255)", song.feed(255), 2);
        for (int i = 3; i <= 240; i++) {
            due(2, "feed", song.feed(' '), i);
        }
        due(2, "feed(32) of 241", song.feed(' '), FULL);
        due(2, "feed(256) of 241", song.feed(256), OUTSIDE);
        due(2, "letters", song.told(5), 240);
        due(2, "duchy()", song.duchy(), -11);
        due(2, "letters then", song.told(5), 0);
        due(2, "feed again", song.feed('d'), 1);
    }

    private static void duchy() {
        SongSquares song = new SongSquares();
        due(3, "blanks", tell(song, "   "), 0);
        due(3, "blanks: places", song.told(1), 0);
        due(3, "least", tell(song, "d1 1 1;"), 0);
        due(3, "least: places", song.told(1), 1);
        due(3, "blanks anywhere", tell(song, "  d 9  4 9 ; s 3 3 999 511 ;i  3; "), 1);
        due(3, "rate", song.told(0), 9);
        due(3, "places", song.told(1), 4);
        due(3, "words", song.told(2), 9);
        due(3, "inspectors", song.told(4), 1);
        due(3, "kind", song.singer(0, 0), 3);
        due(3, "place", song.singer(0, 1), 3);
        due(3, "purse", song.singer(0, 2), 999);
        due(3, "words", song.singer(0, 3), 511);
        due(3, "figures", tell(song, "d001 002 003;i000;s003 001 010 007;i1;"), 1);
        due(3, "figures: rate", song.told(0), 1);
        due(3, "figures: inspectors", song.told(4), 2);
        due(3, "figures: purse", song.singer(0, 2), 10);
        due(3, "the empty text", song.duchy(), 0);
        due(3, "then no duchy", song.verse(1), NOT);
        due(3, "then no rate", song.told(0), 0);
        due(3, "then no words", song.told(2), 0);
        due(3, "then no singers", song.told(3), 0);
        due(3, "seven and four", tell(song, "d1 1 1;" + "s0 0 0 0;".repeat(7) + "i0;".repeat(4)), 7);
        due(3, "four", song.told(4), 4);
    }

    private static void duchyForgets() {
        SongSquares song = singing(VILLAGE, 1, 0, 2);
        song.seed(77);
        song.inspect(0, 0);
        song.verse(2);
        song.rate(9);
        song.pay(0, 4);
        song.write(0, 1);
        song.keep(0);
        song.keep(1);
        song.give(0, 5);
        due(3, "caught ahead", song.told(9) > 0 ? 1 : 0, 1);
        due(3, "a faulty text", tell(song, "d1 1 1;d"), -13);
        due(3, "a fault keeps the rate", song.told(0), 9);
        due(3, "a fault keeps what is paid", song.told(14), 1);
        due(3, "a fault keeps what can be undone", song.told(19), 1);
        due(3, "a fault keeps who sings", song.told(7), 3);
        due(3, "a fault keeps images", song.goBack(1), 1);
        due(3, "a fault empties the text", song.told(5), 0);
        song.give(0, 5);
        due(3, "anew", tell(song, VILLAGE), 5);
        int[] fresh = {2, 2, 5, 5, 1, 0, 0, 0, 0, 0, 0, 1, 4, 8, 0, 32, 0, 0, 0, 0};
        for (int what = 0; what < fresh.length; what++) {
            due(3, "anew told(" + what + ")", song.told(what), fresh[what]);
        }
        due(3, "anew purse", song.singer(0, 2), 20);
        due(3, "anew voice", song.singer(0, 4), NONE);
        due(3, "anew inspector", song.place(1, 3), 1);
        due(3, "anew undo()", song.undo(), NOT);
        due(3, "anew goBack(0)", song.goBack(0), NOT);
        due(3, "anew goBack(1)", song.goBack(1), NOT);
        due(3, "anew seed", song.seed(0), 77);
    }

    private static void fault(String text, int number, int letter) {
        SongSquares song = new SongSquares();
        due(3, "duchy() of " + text, tell(song, text), -10 - number);
        due(4, "fault() of " + text, song.fault(), letter);
        due(4, "places behind " + text, song.told(1), 0);
        due(4, "duchy() of nothing", song.duchy(), 0);
        due(4, "fault() of nothing", song.fault(), NONE);
    }

    private static void faults() {
        fault("s0 0 0 0;", 1, 0);
        fault(" i0;", 1, 1);
        fault(";", 1, 0);
        fault("7", 1, 0);
        fault("D1 1 1;", 1, 0);
        fault("\t", 1, 0);
        fault("d", 1, 1);
        fault("d  ", 1, 3);
        fault("d1", 1, 2);
        fault("d1 1 1", 1, 6);
        fault("d1 1;", 1, 4);
        fault("d1 1 1 1;", 1, 7);
        fault("d1 1 1 9999;", 1, 7);
        fault("d1 1 1x", 1, 6);
        fault("d1 d", 1, 3);
        fault("d1 1 1;;", 1, 7);
        fault("d1 1 1;s", 1, 8);
        fault("d1 1 1;i", 1, 8);
        fault("d1 1 1;i ;", 1, 9);
        fault("d1 1 1;x", 1, 7);
        fault("d1 1 1;s-1 0 0 0;", 1, 8);
        fault("d0 1 1;", 2, 1);
        fault("d10x", 2, 1);
        fault("d0001 1 1;", 2, 1);
        fault("d " + "9".repeat(200), 2, 2);
        fault("d1 0 1;", 2, 3);
        fault("d1 5 1;", 2, 3);
        fault("d1 1 0;", 2, 5);
        fault("d1 1 10", 2, 5);
        fault("d123;", 2, 1);
        fault("d1 2 3;s4 0 0 0;", 2, 8);
        fault("d1 2 3;s0 2 0 0;", 2, 10);
        fault("d1 2 3;s0 1 1000 0;", 2, 12);
        fault("d1 2 3;s0 1 999 8;", 2, 16);
        fault("d1 2 3;i2;", 2, 8);
        fault("d1 1 1;d", 3, 7);
        fault("d1 1 1; d1 1 1;", 3, 8);
        fault("d1 1 1;" + "s0 0 0 0;".repeat(7) + "s", 3, 70);
        fault("d1 1 1;" + "i0;".repeat(4) + "ix", 3, 19);
        SongSquares song = told(VILLAGE);
        due(4, "fault() of a good text", song.fault(), NONE);
        tell(song, "d1 1 1;d");
        due(4, "fault() kept over calls", song.verse(1) * 0 + song.fault(), 7);
    }

    private static void toldNumbers() {
        SongSquares song = singing(VILLAGE, 1, 0, 2, 4);
        int[] want = {2, 2, 5, 5, 1, 0, 0, 23, 0, 0, 6, 1, 4, 8, 0, 32, 0, 0, 0, 4};
        for (int what = 0; what < want.length; what++) {
            due(5, "told(" + what + ")", song.told(what), want[what]);
        }
        due(5, "told(-1)", song.told(-1), OUTSIDE);
        due(5, "told(20)", song.told(20), OUTSIDE);
        due(5, "told(most)", song.told(MOST), OUTSIDE);
        song.inspect(0, 0);
        due(5, "deaf then", song.told(11), 2);
        song.verse(3);
        due(5, "verses", song.told(6), 3);
        due(5, "caught", song.told(9), 2);
        due(5, "richest of like ones", told("d1 1 1;s0 0 3 0;s0 0 7 0;s0 0 7 0;").told(12), 1);
        due(5, "richest with nothing", told("d1 1 1;s0 0 0 0;").told(12), 0);
        due(5, "richest of none", told("d1 1 1;").told(12), NONE);
        due(5, "few of none", told("d1 1 1;").told(13), NONE);
        due(5, "few that do not know all", told("d1 1 3;s0 0 0 3;s0 0 0 1;").told(13), NONE);
        due(5, "few of two", told("d1 1 3;s0 0 0 1;s0 0 0 3;s0 0 0 6;s0 0 0 4;").told(13), 5);
        due(5, "few of all", told("d1 1 3;s0 0 0 1;s0 0 0 2;s0 0 0 4;").told(13), 7);
        due(5, "few of seven", told("d1 1 7;s0 0 0 1;s0 0 0 2;s0 0 0 4;s0 0 0 8;s0 0 0 16;s0 0 0 32;s0 0 0 64;").told(13), 127);
        due(5, "few of like ones", told("d1 1 3;s0 0 0 1;s0 0 0 7;s0 0 0 7;").told(13), 2);
        due(5, "deaf without inspectors", told("d1 4 1;").told(11), 15);
    }

    private static void toldChoirs() {
        SongSquares song = told("d2 2 1;s0 0 0 0;s1 0 0 0;s3 0 0 0;s2 0 0 0;i1;");
        song.pay(0, 4);
        // {0, 1} with or without the child behind them: 2 times 2.
        due(5, "choirs", song.told(15), 2);
        due(5, "in each", song.told(16), 3);
        due(5, "lip", song.told(17), 3);
        song.rate(4);
        // By 4: a second gentry voice owes 8, a hummer as a second one 2, as a third one 8.
        due(5, "choirs by another rate", song.told(15), 0);
        due(5, "in each of none", song.told(16), NONE);
        due(5, "lip of none", song.told(17), NONE);
        song.rate(2);
        song.tear();
        song.pay(0, 1);
        // A second voice that hums unheard: with 0 or 1 ahead; the child may be behind.
        due(5, "choirs by a hummer", song.told(15), 4);
        due(5, "in each by a hummer", song.told(16), 4);
        due(5, "lip of like ones", song.told(17), 0);
        song.inspect(0, 0);
        due(5, "choirs by a hummer heard", song.told(15), 0);
        song.inspect(0, 1);
        song.pay(1, 2);
        due(5, "choirs by both places", song.told(15), 4);
        song.go(0, 1);
        due(5, "choirs wherever they are", song.told(15), 4);
    }

    private static void singer() {
        SongSquares song = singing(VILLAGE, 1, 0, 2);
        due(6, "kind", song.singer(2, 0), 3);
        due(6, "place", song.singer(3, 1), 1);
        due(6, "purse", song.singer(4, 2), 100);
        due(6, "words", song.singer(2, 3), 12);
        due(6, "first voice", song.singer(1, 4), 0);
        due(6, "third voice", song.singer(2, 4), 2);
        due(6, "no voice", song.singer(3, 4), NONE);
        due(6, "owed by the first", song.singer(1, 5), 0);
        due(6, "owed by the second", song.singer(0, 5), 2);
        due(6, "owed by a hummer unheard", song.singer(2, 5), 4);
        due(6, "owed by who does not sing", song.singer(4, 5), 0);
        song.rate(3);
        due(6, "half is cut", singing("d3 1 1;s0 0 0 0;s3 0 0 0;", 0, 1).singer(1, 5), 1);
        due(6, "gentry owe twice", singing("d3 1 1;s0 0 0 0;s1 0 0 0;", 0, 1).singer(1, 5), 6);
        due(6, "a child owes nothing", singing("d3 1 1;s0 0 0 0;s2 0 0 0;", 0, 1).singer(1, 5), 0);
        due(6, "a hummer heard", singing("d3 1 1;s0 0 0 0;s3 0 0 0;i0;", 0, 1).singer(1, 5), 3);
        due(6, "singer(5, 0)", song.singer(5, 0), UNKNOWN);
        due(6, "singer(-1, 0)", song.singer(-1, 0), UNKNOWN);
        due(6, "singer(5, 9)", song.singer(5, 9), UNKNOWN);
        due(6, "singer(0, -1)", song.singer(0, -1), OUTSIDE);
        due(6, "singer(0, 6)", song.singer(0, 6), OUTSIDE);
    }

    private static void place() {
        SongSquares song = singing(VILLAGE, 1, 0, 4);
        due(7, "who is in 0", song.place(0, 0), 7);
        due(7, "who is in 1", song.place(1, 0), 24);
        due(7, "who sings in 0", song.place(0, 1), 3);
        due(7, "who sings in 1", song.place(1, 1), 16);
        due(7, "owed in 0", song.place(0, 2), 2);
        due(7, "owed in 1", song.place(1, 2), 0);
        due(7, "inspectors in 0", song.place(0, 3), 0);
        due(7, "inspectors in 1", song.place(1, 3), 1);
        due(7, "place(2, 0)", song.place(2, 0), UNKNOWN);
        due(7, "place(-1, 7)", song.place(-1, 7), UNKNOWN);
        due(7, "place(0, -1)", song.place(0, -1), OUTSIDE);
        due(7, "place(0, 4)", song.place(0, 4), OUTSIDE);
        due(7, "inspectors together", told("d1 1 1;i0;i0;i0;").place(0, 3), 3);
    }

    private static void verse() {
        SongSquares song = singing(VILLAGE, 1, 0, 2);
        due(8, "verse(0)", song.verse(0), OUTSIDE);
        due(8, "verse(61)", song.verse(61), OUTSIDE);
        due(8, "verse(-5)", song.verse(-5), OUTSIDE);
        due(8, "verse(0) without a duchy", new SongSquares().verse(0), OUTSIDE);
        due(8, "verse(1) without a duchy", new SongSquares().verse(1), NOT);
        due(8, "verse(2)", song.verse(2), 12);
        due(8, "purse of 0", song.singer(0, 2), 16);
        due(8, "purse of 2", song.singer(2, 2), 1);
        due(8, "verse(1): a penny of four", song.verse(1), 15);
        due(8, "hushed", song.singer(2, 4), NONE);
        due(8, "others stay", song.told(7), 3);
        // All pay as the verse begins: who is hushed ahead of another still makes that one dear.
        SongSquares poor = singing("d1 1 1;s0 0 0 0;s0 0 0 0;s0 0 9 0;", 0, 1, 2);
        due(8, "dear for the third", poor.verse(1), 4);
        due(8, "then the second", poor.singer(2, 4), 1);
        due(8, "then a penny", poor.verse(1), 5);
        SongSquares even = singing("d1 1 1;s0 0 0 0;s0 0 1 0;", 0, 1);
        due(8, "the last penny", even.verse(1), 1);
        due(8, "is not hushed by it", even.singer(1, 4), 1);
        due(8, "but by the next", even.verse(1) + even.singer(1, 4), 0);
    }

    private static void verseCounts() {
        SongSquares song = singing("d1 1 1;s0 0 0 0;s3 0 5 0;s3 0 0 0;i0;", 0, 1, 2);
        song.verse(1);
        due(8, "caught, but not without a penny", song.told(9), 1);
        song.verse(60);
        due(8, "caught for each penny", song.told(9), 5);
        due(8, "not caught unheard", caughtUnheard(), 0);
        SongSquares old = told("d1 1 1;");
        for (int i = 0; i < 150; i++) {
            old.verse(60);
        }
        due(8, "verses", old.told(6), 9000);
        due(8, "verse(60) at 9000", old.verse(60), 0);
        due(8, "verses then", old.told(6), 9060);
        due(8, "verse(1) above", old.verse(1), FULL);
        due(8, "drift(1) above", old.drift(1), FULL);
        due(8, "verse(0) above", old.verse(0), OUTSIDE);
        old.undo();
        due(8, "verse(1) at 9000", old.verse(1), 0);
        due(8, "verse(1) at 9001", old.verse(1), FULL);
        due(8, "most caught", caughtForLong(), 9999);
    }

    private static int caughtUnheard() {
        SongSquares song = singing("d9 2 1;s0 0 0 0;s3 0 99 0;i1;", 0, 1);
        return song.verse(5) > 0 ? song.told(9) : MOST;
    }

    private static int caughtForLong() {
        SongSquares song = singing("d1 3 1;s2 0 0 0;s3 0 999 0;s2 1 0 0;s3 1 999 0;s2 2 0 0;s3 2 999 0;i0;i1;i2;", 0, 1, 2, 3, 4, 5);
        for (int i = 0; i < 150; i++) {
            if (i % 10 == 0) {
                song.give(1, 999);
                song.give(3, 999);
                song.give(5, 999);
            }
            song.verse(60);
        }
        return song.told(9);
    }

    private static void join() {
        SongSquares song = told(VILLAGE);
        due(9, "join(2)", song.join(2), 0);
        due(9, "join(0)", song.join(0), 1);
        due(9, "join(0) again", song.join(0), NOT);
        due(9, "join(4) elsewhere", song.join(4), 0);
        due(9, "join(1)", song.join(1), 2);
        due(9, "join(5)", song.join(5), UNKNOWN);
        due(9, "join(-1)", song.join(-1), UNKNOWN);
        due(9, "only what was not refused", song.told(19), 4);
        song.hush(2);
        due(9, "join(2) comes last", song.join(2), 2);
    }

    private static void hush() {
        SongSquares song = singing(VILLAGE, 2, 0, 1, 4);
        due(10, "hush(0)", song.hush(0), 2);
        due(10, "one ahead", song.singer(1, 4), 1);
        due(10, "not ahead", song.singer(2, 4), 0);
        due(10, "not elsewhere", song.singer(4, 4), 0);
        due(10, "hush(0) again", song.hush(0), NOT);
        due(10, "hush(3)", song.hush(3), NOT);
        due(10, "hush(5)", song.hush(5), UNKNOWN);
        due(10, "hush(4)", song.hush(4), 0);
        due(10, "who sings", song.told(7), 6);
        SongSquares last = singing(VILLAGE, 2, 1, 0);
        due(10, "hush(2)", last.hush(2), 2);
        due(10, "the least number one ahead", last.singer(0, 4), 1);
    }

    private static void go() {
        SongSquares song = singing(VILLAGE, 0, 1, 2, 4);
        due(11, "go(1, 0)", song.go(1, 0), NOT);
        due(11, "go(1, 2)", song.go(1, 2), UNKNOWN);
        due(11, "go(5, 0)", song.go(5, 0), UNKNOWN);
        due(11, "go(-1, 0)", song.go(-1, 0), UNKNOWN);
        due(11, "go(1, -1)", song.go(1, -1), UNKNOWN);
        due(11, "go(1, 1)", song.go(1, 1), 0);
        due(11, "is there", song.singer(1, 1), 1);
        due(11, "is hushed", song.singer(1, 4), NONE);
        due(11, "one ahead", song.singer(2, 4), 1);
        due(11, "nobody behind there", song.singer(4, 4), 0);
        due(11, "joins there", song.join(1), 1);
        due(11, "go(3, 0) without singing", song.go(3, 0), 1);
    }

    private static void give() {
        SongSquares song = told(VILLAGE);
        due(12, "give(0, 0)", song.give(0, 0), OUTSIDE);
        due(12, "give(0, 1000)", song.give(0, 1000), OUTSIDE);
        due(12, "give(5, 0)", song.give(5, 0), UNKNOWN);
        due(12, "give(0, 1)", song.give(0, 1), 21);
        for (int i = 1; i <= 9; i++) {
            due(12, "give(0, 999)", song.give(0, 999), 21 + 999 * i);
        }
        due(12, "give(0, 999) at most", song.give(0, 999), 9999);
        due(12, "give(0, 1) at most", song.give(0, 1), 9999);
        due(12, "each can be undone", song.told(19), 12);
    }

    private static void rate() {
        SongSquares song = singing(VILLAGE, 1, 0);
        due(13, "rate(0)", song.rate(0), OUTSIDE);
        due(13, "rate(10)", song.rate(10), OUTSIDE);
        due(13, "rate(0) without a duchy", new SongSquares().rate(0), OUTSIDE);
        due(13, "rate(9) without a duchy", new SongSquares().rate(9), NOT);
        due(13, "rate(9)", song.rate(9), 2);
        due(13, "rate(9) again", song.rate(9), 9);
        due(13, "owed by it", song.singer(0, 5), 9);
        due(13, "told", song.told(0), 9);
        due(13, "rate(1)", told(VILLAGE).rate(1), 2);
        due(13, "can be undone", song.told(19), 4);
    }

    private static void inspect() {
        SongSquares song = singing(VILLAGE, 0, 2);
        due(14, "inspect(1, 0)", song.inspect(1, 0), UNKNOWN);
        due(14, "inspect(-1, 0)", song.inspect(-1, 0), UNKNOWN);
        due(14, "inspect(0, 2)", song.inspect(0, 2), UNKNOWN);
        due(14, "inspect(0, 1)", song.inspect(0, 1), NOT);
        due(14, "unheard", song.singer(2, 5), 1);
        due(14, "inspect(0, 0)", song.inspect(0, 0), 1);
        due(14, "heard", song.singer(2, 5), 2);
        due(14, "deaf", song.told(11), 2);
    }

    private static void drift() {
        SongSquares song = told(VILLAGE);
        due(15, "drift(0)", song.drift(0), OUTSIDE);
        due(15, "drift(61)", song.drift(61), OUTSIDE);
        due(15, "drift(1) without a duchy", new SongSquares().drift(1), NOT);
        due(15, "drift(0) without a duchy", new SongSquares().drift(0), OUTSIDE);
        song.seed(5);
        due(15, "drift(20)", song.drift(20), 28);
        due(15, "who sings", song.told(7), 11);
        due(15, "verses", song.told(6), 20);
        due(15, "one to be undone", song.told(19), 1);
        SongSquares empty = told("d1 4 1;i0;");
        empty.seed(5);
        due(15, "drift(60) without singers", empty.drift(60), 0);
        due(15, "without a draw", empty.seed(0), 5);
        due(15, "verses without singers", empty.told(6), 60);
        due(15, "inspectors stay without singers", empty.place(0, 3), 1);
        // From seed 0 the first draws are 0 of 5 and then the singer.
        SongSquares one = told("d1 1 1;s0 0 0 0;");
        one.drift(1);
        due(15, "the seed after two draws", one.seed(0), 1406932606);
        due(15, "joined by 0", one.told(7), 1);
        for (int start = 0; start < 200; start++) {
            driftOnce(start);
        }
    }

    private static long drawn;

    private static int draw(int n) {
        drawn = (drawn * 1103515245L + 12345L) % (1L << 31);
        return (int) (drawn / 65536 % n);
    }

    /** One verse by draws, where nobody owes: what the draws say is all that happens. */
    private static void driftOnce(int start) {
        SongSquares song = singing("d1 4 1;s2 0 0 0;s2 1 10 0;s2 2 20 0;i0;i1;i2;", 0, 1);
        int seed = start * 7654321;
        song.seed(seed);
        song.drift(1);
        drawn = seed;
        int event = draw(5);
        int s = draw(3);
        int[] places = {0, 1, 2};
        int[] purses = {0, 10, 20};
        int[] posts = {1, 1, 1, 0};
        int sings = 3;
        if (event == 0) {
            sings |= 1 << s;
        } else if (event == 1) {
            sings &= ~(1 << s);
        } else if (event == 2) {
            places[s] = draw(4);
            sings &= places[s] == s ? -1 : ~(1 << s);
        } else if (event == 3) {
            purses[s] += draw(50);
        } else {
            posts[draw(3)]--;
            posts[draw(4)]++;
        }
        due(15, "event " + event + " of seed " + seed + ": the seed", song.seed(0), (int) drawn);
        due(15, "event " + event + " of seed " + seed + ": who sings", song.told(7), sings);
        for (int i = 0; i < 3; i++) {
            due(15, "event " + event + " of seed " + seed + ": the place", song.singer(i, 1), places[i]);
            due(15, "event " + event + " of seed " + seed + ": the purse", song.singer(i, 2), purses[i]);
        }
        for (int x = 0; x < 4; x++) {
            due(15, "event " + event + " of seed " + seed + ": inspectors", song.place(x, 3), posts[x]);
        }
    }

    private static void undo() {
        SongSquares song = told(VILLAGE);
        due(16, "undo() of none", song.undo(), NOT);
        song.join(1);
        song.join(0);
        song.join(2);
        song.inspect(0, 0);
        song.verse(3);
        song.go(0, 1);
        song.give(3, 5);
        song.rate(7);
        song.hush(1);
        song.seed(9);
        song.drift(30);
        int grain = song.seed(4);
        song.pay(0, 1);
        song.write(0, 1);
        due(16, "undo() of drift", song.undo(), 9);
        due(16, "the seed stays", song.seed(4), 4);
        due(16, "the seed was drawn", grain == 9 ? 0 : 1, 1);
        due(16, "verses as ahead of it", song.told(6), 3);
        due(16, "what is paid stays", song.told(14) + song.told(18), 2);
        due(16, "undo() of hush", song.undo(), 8);
        due(16, "sings again", song.singer(1, 4), 0);
        due(16, "undo() of rate", song.undo(), 7);
        due(16, "the rate as ahead of it", song.told(0), 2);
        due(16, "undo() of give", song.undo(), 6);
        due(16, "the purse as ahead of it", song.singer(3, 2), 0);
        due(16, "undo() of go", song.undo(), 5);
        due(16, "the voice as ahead of it", song.singer(0, 4), 1);
        due(16, "the place as ahead of it", song.singer(0, 1), 0);
        due(16, "caught ahead of it", song.told(9), 2);
        due(16, "undo() of verse", song.undo(), 4);
        due(16, "the Treasury as ahead of it", song.told(8), 0);
        due(16, "caught as ahead of it", song.told(9), 0);
        due(16, "who sings as ahead of it", song.told(7), 7);
        due(16, "undo() of inspect", song.undo(), 3);
        due(16, "the inspector as ahead of it", song.place(1, 3), 1);
        due(16, "undo() of join", song.undo(), 2);
        due(16, "undo() of join", song.undo(), 1);
        due(16, "undo() of join", song.undo(), 0);
        due(16, "nobody sings", song.told(7), 0);
        due(16, "undo() of none more", song.undo(), NOT);
        undoOldest();
    }

    private static void undoOldest() {
        SongSquares song = told("d1 1 1;s0 0 0 0;");
        for (int i = 0; i < 21; i++) {
            song.give(0, 1);
        }
        due(16, "16 are kept", song.told(19), 16);
        for (int i = 15; i >= 0; i--) {
            due(16, "undo()", song.undo(), i);
        }
        due(16, "the oldest are lost", song.singer(0, 2), 5);
        due(16, "undo() of none more", song.undo(), NOT);
        song.give(0, 0);
        due(16, "what is refused is not kept", song.undo(), NOT);
    }

    private static void treasury() {
        SongSquares song = singing(VILLAGE, 1, 0, 2);
        due(17, "treasury(-1)", song.treasury(-1), OUTSIDE);
        due(17, "treasury(201)", song.treasury(201), OUTSIDE);
        due(17, "treasury(201) without a duchy", new SongSquares().treasury(201), OUTSIDE);
        due(17, "treasury(0) without a duchy", new SongSquares().treasury(0), NOT);
        due(17, "treasury(0)", song.treasury(0), 0);
        due(17, "treasury(3)", song.treasury(3), 15);
        due(17, "treasury(200)", song.treasury(200), 29);
        due(17, "nothing changes", song.told(8) + song.told(6), 0);
        due(17, "the purse stays", song.singer(0, 2), 20);
        due(17, "who sings stays", song.told(7), 7);
        due(17, "nothing to undo by it", song.told(19), 3);
        song.verse(2);
        due(17, "from now", song.treasury(1), 15);
    }

    private static void lasts() {
        SongSquares song = singing(VILLAGE, 1, 0, 2);
        due(18, "lasts(0)", song.lasts(0), 11);
        due(18, "lasts(1)", song.lasts(1), NONE);
        due(18, "lasts(2)", song.lasts(2), 3);
        due(18, "lasts(3)", song.lasts(3), 0);
        due(18, "lasts(5)", song.lasts(5), UNKNOWN);
        due(18, "lasts(-1)", song.lasts(-1), UNKNOWN);
        due(18, "nothing changes", song.told(6) + song.told(8), 0);
        // 499 pence at a penny a verse: behind the 500th one is not paid.
        due(18, "500 verses", singing("d1 1 1;s0 0 0 0;s0 0 499 0;", 0, 1).lasts(1), 500);
        due(18, "501 verses", singing("d1 1 1;s0 0 0 0;s0 0 500 0;", 0, 1).lasts(1), NONE);
    }

    private static void more() {
        SongSquares song = singing(VILLAGE, 1, 0);
        due(19, "more(4, 0)", song.more(4, 0), 8);
        due(19, "more(2, 0) unheard", song.more(2, 0), 4);
        due(19, "more(3, 0) of a child", song.more(3, 0), 0);
        due(19, "more(2, 1)", song.more(2, 1), 0);
        due(19, "more(0, 1) sings", song.more(0, 1), NOT);
        due(19, "more(5, 0)", song.more(5, 0), UNKNOWN);
        due(19, "more(0, 2)", song.more(0, 2), UNKNOWN);
        due(19, "more(2, -1)", song.more(2, -1), UNKNOWN);
        song.join(4);
        due(19, "more(2, 1) heard", song.more(2, 1), 2);
        due(19, "nothing changes", song.told(7), 19);
    }

    private static void bears() {
        // Purses 0, 0, 1, 4: in the order of numbers the second 0 can only be first.
        SongSquares song = told("d1 1 1;s0 0 0 0;s0 0 0 0;s0 0 1 0;s0 0 4 0;");
        due(20, "bears(15, 0, 0)", song.bears(15, 0, 0), 3);
        due(20, "bears(15, 0, 1)", song.bears(15, 0, 1), 13);
        due(20, "bears(14, 0, 1)", song.bears(14, 0, 1), 14);
        due(20, "bears(3, 0, 1)", song.bears(3, 0, 1), 1);
        due(20, "bears(0, 0, 1)", song.bears(0, 0, 1), 0);
        due(20, "bears(16, 0, 0)", song.bears(16, 0, 0), UNKNOWN);
        due(20, "bears(-1, 0, 0)", song.bears(-1, 0, 0), UNKNOWN);
        due(20, "bears(1, 1, 9)", song.bears(1, 1, 9), UNKNOWN);
        due(20, "bears(1, 0, 2)", song.bears(1, 0, 2), OUTSIDE);
        due(20, "bears(1, 0, -1)", song.bears(1, 0, -1), OUTSIDE);
        SongSquares heard = told("d2 2 1;s0 0 0 0;s3 0 1 0;i1;");
        due(20, "a hummer unheard", heard.bears(3, 0, 1), 3);
        due(20, "a hummer heard", heard.bears(3, 1, 1), 1);
        due(20, "by the rate", heard.rate(4) * 0 + heard.bears(3, 0, 0), 1);
    }

    private static void shared() {
        SongSquares song = told(VILLAGE);
        due(21, "shared(31, NONE)", song.shared(31, NONE), 0);
        due(21, "shared(23, NONE)", song.shared(23, NONE), 2);
        int[] row = {0, 0, 1, 4, 4};
        for (int word = 0; word < 5; word++) {
            due(21, "shared(23, " + word + ")", song.shared(23, word), row[word]);
            due(21, "shared(31, " + word + ")", song.shared(31, word), 3);
            due(21, "shared(7, " + word + ")", song.shared(7, word), NONE);
        }
        due(21, "shared(0, NONE)", song.shared(0, NONE), NONE);
        due(21, "shared(32, 9)", song.shared(32, 9), UNKNOWN);
        due(21, "shared(-1, 0)", song.shared(-1, 0), UNKNOWN);
        due(21, "shared(31, 5)", song.shared(31, 5), OUTSIDE);
        due(21, "shared(31, -2)", song.shared(31, -2), OUTSIDE);
        due(21, "shared(0, NONE) without a duchy", new SongSquares().shared(0, NONE), NOT);
        due(21, "shared(0, 0) without a duchy", new SongSquares().shared(0, 0), OUTSIDE);
        due(21, "shared(1, 0) without a duchy", new SongSquares().shared(1, 0), UNKNOWN);
        // 0 knows word 0 alone, 1 all but the last, 2 the last: the row with 1 first has a change less.
        SongSquares less = told("d1 1 4;s0 0 0 1;s0 0 0 7;s0 0 0 8;");
        due(21, "fewest ahead of least", less.shared(7, 0), 1);
        due(21, "changes", less.shared(7, NONE), 1);
    }

    private static void groups() {
        SongSquares song = told(VILLAGE);
        due(22, "groups(31, NONE)", song.groups(31, NONE), 3);
        int[] places = {0, 1, 0, 0, 1};
        for (int s = 0; s < 5; s++) {
            due(22, "groups(31, " + s + ")", song.groups(31, s), places[s]);
        }
        due(22, "groups(3, 4) not in it", song.groups(3, 4), NONE);
        due(22, "groups(0, NONE)", song.groups(0, NONE), 0);
        due(22, "groups(0, 0)", song.groups(0, 0), NONE);
        due(22, "groups(32, NONE)", song.groups(32, NONE), UNKNOWN);
        due(22, "groups(1, 5)", song.groups(1, 5), UNKNOWN);
        due(22, "groups(1, -2)", song.groups(1, -2), UNKNOWN);
        due(22, "groups(0, NONE) without a duchy", new SongSquares().groups(0, NONE), NOT);
        due(22, "groups(0, 0) without a duchy", new SongSquares().groups(0, 0), UNKNOWN);
        due(22, "all in one place", told("d1 1 1;" + "s0 0 0 0;".repeat(7)).groups(127, NONE), 91);
        SongSquares four = told("d9 4 1;" + "s1 0 0 0;".repeat(7));
        due(22, "seven in four places", four.groups(127, NONE), 54);
        due(22, "the lesser place first", four.groups(127, 1), 0);
        due(22, "the third gentry", four.groups(127, 2), 1);
        due(22, "the last gentry", four.groups(127, 6), 3);
        due(22, "nothing changes", four.told(7), 0);
    }

    private static void rates() {
        SongSquares song = singing(VILLAGE, 1, 0, 2);
        due(23, "rates(-1)", song.rates(-1), OUTSIDE);
        due(23, "rates(1000000)", song.rates(1000000), OUTSIDE);
        due(23, "rates(999999)", song.rates(999999), NONE);
        due(23, "rates(0)", song.rates(0), 1);
        due(23, "rates(3)", song.rates(3), 1);
        due(23, "rates(4)", song.rates(4), 2);
        due(23, "rates(18)", song.rates(18), 9);
        due(23, "rates(19): by purse", song.rates(19), NONE);
        due(23, "the rate stays", song.told(0), 2);
        due(23, "rates(0) without a duchy", new SongSquares().rates(0), 1);
        due(23, "rates(1) without a duchy", new SongSquares().rates(1), NONE);
    }

    private static void dry() {
        SongSquares song = new SongSquares();
        due(24, "dry(0, 0)", song.dry(0, 0), 1000000000);
        due(24, "dry(1, 0)", song.dry(1, 0), 0);
        due(24, "dry(60, 100)", song.dry(60, 100), 1000000000);
        due(24, "dry(2, 33)", song.dry(2, 33), 108900000);
        due(24, "dry(6, 33): cut each time", song.dry(6, 33), 1291467);
        due(24, "dry(60, 99)", song.dry(60, 99), 547156620);
        due(24, "dry(-1, 5)", song.dry(-1, 5), OUTSIDE);
        due(24, "dry(61, 5)", song.dry(61, 5), OUTSIDE);
        due(24, "dry(5, -1)", song.dry(5, -1), OUTSIDE);
        due(24, "dry(5, 101)", song.dry(5, 101), OUTSIDE);
    }

    private static void pay() {
        SongSquares song = told(VILLAGE);
        due(25, "pay(2, 0)", song.pay(2, 0), UNKNOWN);
        due(25, "pay(-1, -1)", song.pay(-1, -1), UNKNOWN);
        due(25, "pay(0, -1)", song.pay(0, -1), OUTSIDE);
        due(25, "pay(0, 10000)", song.pay(0, 10000), OUTSIDE);
        for (int i = 1; i <= 6; i++) {
            due(25, "pay(" + i % 2 + ", " + (i == 6 ? 9999 : 0) + ")", song.pay(i % 2, i == 6 ? 9999 : 0), i);
        }
        due(25, "pay(0, 0) of seven", song.pay(0, 0), FULL);
        due(25, "pay(0, 10000) of seven", song.pay(0, 10000), OUTSIDE);
        due(25, "paid", song.told(14), 6);
        due(25, "cannot be undone", song.undo(), NOT);
    }

    private static void write() {
        SongSquares song = told(VILLAGE);
        due(26, "write(5, 0)", song.write(5, 0), UNKNOWN);
        due(26, "write(-1, -1)", song.write(-1, -1), UNKNOWN);
        due(26, "write(0, -1)", song.write(0, -1), OUTSIDE);
        due(26, "write(0, 10000)", song.write(0, 10000), OUTSIDE);
        for (int i = 1; i <= 15; i++) {
            due(26, "write(0, 9999)", song.write(i % 5, i == 15 ? 9999 : 0), i);
        }
        due(26, "write(0, 0) of sixteen", song.write(0, 0), FULL);
        due(26, "write(0, -1) of sixteen", song.write(0, -1), OUTSIDE);
        due(26, "entries", song.told(18), 15);
    }

    private static void tear() {
        SongSquares song = told(VILLAGE);
        song.pay(0, 9999);
        song.pay(0, 9998);
        song.write(0, 7);
        due(27, "tear()", song.tear(), 3);
        due(27, "tear() again", song.tear(), 0);
        due(27, "paid", song.told(14), 0);
        due(27, "entries", song.told(18), 0);
        due(27, "choirs", song.told(15), 32);
        due(27, "judge()", song.judge(), NONE);
    }

    private static void judge() {
        SongSquares song = told(VILLAGE);
        due(28, "judge() of nothing", song.judge(), NONE);
        song.write(4, 100);
        song.write(2, 9);
        song.write(0, 20);
        due(28, "judge() of what is so", song.judge(), NONE);
        song.give(0, 1);
        due(28, "judge(): the third", song.judge(), 2);
        song.give(2, 1);
        due(28, "judge(): the second", song.judge(), 1);
        song.give(4, 1);
        due(28, "judge(): the first", song.judge(), 0);
        song.undo();
        song.undo();
        song.undo();
        due(28, "judge() of what is so again", song.judge(), NONE);
    }

    private static void seed() {
        SongSquares song = new SongSquares();
        due(29, "seed(-1)", song.seed(-1), OUTSIDE);
        due(29, "seed(least)", song.seed(LEAST), OUTSIDE);
        due(29, "seed(most)", song.seed(MOST), 0);
        due(29, "seed(0)", song.seed(0), MOST);
        due(29, "seed(3)", song.seed(3), 0);
        due(29, "cannot be undone", song.undo(), NOT);
    }

    private static void keep() {
        SongSquares song = singing(VILLAGE, 1, 0);
        due(30, "keep(2)", song.keep(2), UNKNOWN);
        due(30, "keep(-1)", song.keep(-1), UNKNOWN);
        due(30, "can be undone", song.told(19), 2);
        due(30, "keep(0)", song.keep(0), 1);
        due(30, "nothing can be undone", song.told(19), 0);
        due(30, "undo()", song.undo(), NOT);
        song.join(2);
        due(30, "keep(0) over it", song.keep(0), 1);
        song.hush(2);
        song.goBack(0);
        due(30, "the latest is kept", song.told(7), 7);
        SongSquares none = new SongSquares();
        due(30, "keep(1) without a duchy", none.keep(1), 1);
        due(30, "goBack(1) without a duchy", none.goBack(1), 1);
    }

    private static void goBack() {
        SongSquares song = singing(VILLAGE, 1, 0, 2);
        song.seed(6);
        due(31, "goBack(0)", song.goBack(0), NOT);
        due(31, "goBack(2)", song.goBack(2), UNKNOWN);
        due(31, "goBack(-1)", song.goBack(-1), UNKNOWN);
        song.keep(1);
        song.inspect(0, 0);
        song.verse(4);
        song.rate(8);
        song.go(1, 1);
        song.seed(1);
        song.pay(0, 3);
        song.write(0, 3);
        due(31, "goBack(0) not kept", song.goBack(0), NOT);
        due(31, "goBack(1)", song.goBack(1), 1);
        int[] want = {2, 2, 5, 5, 1, 0, 0, 7, 0, 0, 6, 1, 4, 8, 1};
        for (int what = 0; what < want.length; what++) {
            due(31, "told(" + what + ")", song.told(what), want[what]);
        }
        due(31, "the book stays", song.told(18), 1);
        due(31, "nothing can be undone", song.undo(), NOT);
        due(31, "the place", song.singer(1, 1), 0);
        due(31, "the purse", song.singer(0, 2), 20);
        due(31, "the voice", song.singer(2, 4), 2);
        due(31, "the seed", song.seed(0), 6);
        song.hush(1);
        due(31, "goBack(1) once more", song.goBack(1), 1);
        due(31, "the image stays as kept", song.told(7), 7);
    }
}
