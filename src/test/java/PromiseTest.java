/** Each promise by itself: ordinary answers, the edges that the document names, wrong inputs. */
public final class PromiseTest {
    private static final int BAD = AskedMaps.BAD, STATE = AskedMaps.STATE, FULL = AskedMaps.FULL;
    private static final int NONE = AskedMaps.NONE, NO = AskedMaps.NO;
    private static final int LOW = Integer.MIN_VALUE, HIGH = Integer.MAX_VALUE;

    private static final String RING = Lands.RING, THREE = Lands.THREE, CHAIN = Lands.CHAIN;

    private final Check check = new Check();

    public static void main(String[] args) {
        PromiseTest all = new PromiseTest();
        all.land();
        all.done();
        all.landAsItIs();
        all.asking();
        all.stranger();
        all.kindsAndImages();
        all.check.close("PromiseTest");
    }

    private void due(String call, long got, long want) {
        check.due(call, got, want);
    }

    private void fault(String text, int want) {
        AskedMaps x = Check.made(RING + "m0 1 2;");
        x.names(0);
        x.took(1, 1);
        x.keep(0);
        Check.write(x, text);
        due("land() of \"" + text + "\"", x.land(), -10 - want);
        due("letters that stay behind a FAULT in \"" + text + "\"", x.count(4), text.length());
        due("PLACES behind a FAULT", x.count(0), 4);
        due("LANES behind a FAULT", x.count(1), 4);
        due("MAPS behind a FAULT", x.count(2), 1);
        due("TOOK behind a FAULT", x.count(3), 1);
        due("THE DRAFT behind a FAULT", x.now(1), 1);
        due("what may be UNDONE behind a FAULT", x.now(3), 1);
        due("an IMAGE behind a FAULT", x.back(0), 1);
    }

    private void items(String text, int want) {
        due("land() of \"" + text + "\"", Check.land(new AskedMaps(), text), want);
    }

    // ---- the land

    private void land() {
        promise1New();
        promise2Type();
        promise3Clear();
        promise4Items();
        promise4Faults();
        promise4FaultsOfLanesAndMaps();
        promise4Anew();
        promise5Lane();
        promise6Map();
        promise7Place();
        promise8Now();
    }

    private void promise1New() {
        AskedMaps x = new AskedMaps();
        int[] counts = {2, 0, 0, 0, 0};
        for (int what = 0; what < counts.length; what++) {
            due("new: count(" + what + ")", x.count(what), counts[what]);
        }
        for (int what = 0; what < 4; what++) {
            due("new: now(" + what + ")", x.now(what), 0);
        }
        due("new: trace()", x.trace(), 0);
        due("new: undo()", x.undo(), STATE);
        due("new: back(0)", x.back(0), STATE);
        due("new: far(0, 1)", x.far(0, 1), NONE);
        due("new: asking(-1)", x.asking(-1), 0);
    }

    private void promise2Type() {
        AskedMaps x = new AskedMaps();
        due("type(-1)", x.type(-1), BAD);
        due("type(256)", x.type(256), BAD);
        due("type(LOW)", x.type(LOW), BAD);
        due("type(HIGH)", x.type(HIGH), BAD);
        due("type(0)", x.type(0), 1);
        due("type(255)", x.type(255), 2);
        for (int i = 3; i <= 120; i++) {
            due("type(32)", x.type(32), i);
        }
        due("the 121st letter", x.type(32), FULL);
        due("the 121st letter, BAD first", x.type(256), BAD);
        due("letters", x.count(4), 120);
    }

    private void promise3Clear() {
        AskedMaps x = new AskedMaps();
        due("clear() of nothing", x.clear(), 0);
        Check.write(x, "n3;x");
        due("clear()", x.clear(), 4);
        due("clear() again", x.clear(), 0);
        due("land() of nothing", x.land(), 0);
        due("PLACES", x.count(0), 2);
        for (int i = 0; i < 120; i++) {
            x.type(32);
        }
        due("clear() of all", x.clear(), 120);
        due("type behind it", x.type(32), 1);
    }

    private void promise4Items() {
        items("", 0);
        items("   ", 0);
        items("n2;", 1);
        items(" n  5 ; ", 1);
        items("l0 1 5 9;", 1);
        items("n3;l2 0 1 1;m0 2;m2 0 ;", 4);
        items(CHAIN + "m0 1 2 3 4;m4 3 2 1 0;m1 2 3;m3 2;", 9);
        items("n4;l0 1 1 1;l0 2 1 1;l0 3 1 1;l1 2 1 1;l1 3 1 1;l2 3 1 1;", 7);
        items("l0 1 1 1;m0 1;m0 1;m1 0;m0 1;", 5);
        items("n3;l0 1 5 1;l1 2 5 1;l0 2 1 1;m0 1 2;", 5);
    }

    private void promise4Faults() {
        fault("n1;", 1);
        fault("n6;", 1);
        fault("n 0;", 2);
        fault("n02;", 1);
        fault("n00;", 1);
        fault("n10;", 1);
        fault("n100;", 1);
        fault("n4294967298;", 1);
        fault("n", 1);
        fault("n  ", 3);
        fault("n2", 2);
        fault("n2  ", 4);
        fault("n;", 1);
        fault("n2 3;", 3);
        fault("n2l0 1 1 1;", 2);
        fault("n2;n2;", 3);
        fault("l0 1 1 1;n3;", 9);
        fault(";", 0);
        fault("n2;;", 3);
        fault("  2", 2);
        fault("x", 0);
        fault("N2;", 0);
        fault("n3\t;", 2);
        fault("n3;" + (char) 233, 3);
        fault("n3;" + (char) 0, 3);
        fault("n9x", 1);
    }

    private void promise4FaultsOfLanesAndMaps() {
        fault("l0 0 1 1;", 3);
        fault("l0 2 1 1;", 3);
        fault("l2 0 1 1;", 1);
        fault("l0 1 0 1;", 5);
        fault("l0 1 6 1;", 5);
        fault("l0 1 1 0;", 7);
        fault("l0 1 1 10;", 7);
        fault("l0 1 1 01;", 7);
        fault("l0 1 1;", 6);
        fault("l0 1 1 1 1;", 9);
        fault("l0 1 1 1", 8);
        fault("l;", 1);
        fault("n3;l0 1 1 1;l1 0 1 1;", 15);
        fault("n5;l0 1 1 1;l0 2 1 1;l0 3 1 1;l0 4 1 1;l1 2 1 1;l1 3 1 1;l1 4 1 1;", 57);
        fault("m0 1;", 3);
        fault("m2 1;", 1);
        fault("m", 1);
        fault("m;", 1);
        fault("l0 1 1 1;m0;", 11);
        fault("l0 1 1 1;m0 1", 13);
        fault("l0 1 1 1;m0 0;", 12);
        fault("l0 1 1 1;m0 1 0;", 14);
        fault("l0 1 1 1;m0 2;", 12);
        fault("l0 1 1 1;m0 01;", 12);
        fault("n3;l0 1 1 1;m1 2;l1 2 1 1;", 15);
        fault("l0 1 1 1;m0 1;m0 1;m0 1;m0 1;m0 1;", 29);
        fault(CHAIN + "m0 1 2 3 4 0;", 50);
        fault(CHAIN + "m0 2;", 42);
        fault(CHAIN + "m0 1 2 3 4", 49);
    }

    private void promise4Anew() {
        AskedMaps x = Check.made(RING + "m0 1 2;");
        Check.draft(x, 0, 1);
        x.digs(0, 5);
        x.took(0, 1);
        x.keep(0);
        x.keep(1);
        x.rate(0, 0);
        due("land() anew", Check.land(x, THREE), 4);
        int[] counts = {3, 3, 0, 0, 0};
        for (int what = 0; what < counts.length; what++) {
            due("anew: count(" + what + ")", x.count(what), counts[what]);
        }
        for (int what = 0; what < 4; what++) {
            due("anew: now(" + what + ")", x.now(what), 0);
        }
        due("anew: lane(0, 2)", x.lane(0, 2), 1);
        due("anew: undo()", x.undo(), STATE);
        due("anew: back(0)", x.back(0), STATE);
        due("anew: back(1)", x.back(1), STATE);
        due("anew: trace() goes on", x.trace(), 1);
        due("land() of nothing", x.land(), 0);
        due("PLACES then", x.count(0), 2);
        due("LANES then", x.count(1), 0);
    }

    private void promise5Lane() {
        AskedMaps x = Check.made("n4;l3 1 2 9;l1 2 4 7;m3 1 2;m2 1;");
        int[] first = {3, 1, 2, 9, 1};
        int[] second = {1, 2, 4, 7, 2};
        for (int what = 0; what < 5; what++) {
            due("lane(0, " + what + ")", x.lane(0, what), first[what]);
            due("lane(1, " + what + ")", x.lane(1, what), second[what]);
        }
        Check.draft(x, 1, 2);
        due("THE DRAFT is no MAP: lane(1, 4)", x.lane(1, 4), 2);
        for (int wrong : new int[] {-1, 2, LOW, HIGH}) {
            due("lane(" + wrong + ", 0)", x.lane(wrong, 0), BAD);
        }
        for (int wrong : new int[] {-1, 5, LOW, HIGH}) {
            due("lane(0, " + wrong + ")", x.lane(0, wrong), BAD);
        }
    }

    private void promise6Map() {
        AskedMaps x = Check.made(RING + "m0 3 2 1;m0 1 2;m3 0;");
        int[][] want = {{4, 3, 0}, {3, 2, 1}, {2, 1, 1}};
        for (int m = 0; m < 3; m++) {
            for (int what = 0; what < 3; what++) {
                due("map(" + m + ", " + what + ")", x.map(m, what), want[m][what]);
            }
        }
        x.digs(0, 3);
        due("as short as another: map(0, 2)", x.map(0, 2), 1);
        due("longer than another: map(1, 2)", x.map(1, 2), 0);
        due("map(1, 1)", x.map(1, 1), 4);
        for (int wrong : new int[] {-1, 3, LOW, HIGH}) {
            due("map(" + wrong + ", 0)", x.map(wrong, 0), BAD);
            due("map(0, " + wrong + ")", x.map(0, wrong), BAD);
        }
    }

    private void promise7Place() {
        AskedMaps x = Check.made(CHAIN + "m4 3 2 1 0;m1 2;");
        for (int k = 0; k < 5; k++) {
            due("place(0, " + k + ")", x.place(0, k), 4 - k);
            due("place(-1, " + k + ")", x.place(-1, k), NONE);
        }
        due("place(1, 1)", x.place(1, 1), 2);
        due("place(1, 2)", x.place(1, 2), NONE);
        Check.draft(x, 3, 2);
        due("place(-1, 0)", x.place(-1, 0), 3);
        due("place(-1, 1)", x.place(-1, 1), 2);
        due("place(-1, 2)", x.place(-1, 2), NONE);
        for (int wrong : new int[] {-2, 2, 4, LOW, HIGH}) {
            due("place(" + wrong + ", 0)", x.place(wrong, 0), BAD);
        }
        for (int wrong : new int[] {-1, 5, LOW, HIGH}) {
            due("place(0, " + wrong + ")", x.place(0, wrong), BAD);
            due("place(-1, " + wrong + ")", x.place(-1, wrong), BAD);
        }
    }

    private void promise8Now() {
        AskedMaps x = Check.made(RING + "m0 3 2 1;m0 1 2;m3 0;");
        due("now(0)", x.now(0), 6);
        x.digs(0, 3);
        due("now(0) by other LENGTHS", x.now(0), 5);
        due("now(2)", x.now(2), 4);
        Check.draft(x, 0, 1, 2);
        due("now(1)", x.now(1), 3);
        due("now(3)", x.now(3), 4);
        for (int wrong : new int[] {-1, 4, LOW, HIGH}) {
            due("now(" + wrong + ")", x.now(wrong), BAD);
        }
    }

    // ---- what is done

    private void done() {
        promise9Names();
        promise10Asks();
        promise10Refused();
        promise11Digs();
        promise12Burns();
        promise13Wipes();
        promise14Undo();
        promise14UndoAll();
    }

    private void promise9Names() {
        AskedMaps x = Check.made(RING);
        for (int wrong : new int[] {-1, 4, LOW, HIGH}) {
            due("names(" + wrong + ")", x.names(wrong), BAD);
        }
        due("names(1)", x.names(1), 1);
        due("names(1) again", x.names(1), STATE);
        due("names(3), no LANE", x.names(3), STATE);
        due("names(0)", x.names(0), 2);
        due("names(1), was there", x.names(1), STATE);
        due("names(3)", x.names(3), 3);
        due("names(2)", x.names(2), 4);
        due("names(1), a ring", x.names(1), STATE);
        due("names(4), BAD ahead of STATE", x.names(4), BAD);
        due("what may be UNDONE", x.now(3), 4);
        x = Check.made(CHAIN);
        Check.draft(x, 0, 1, 2, 3);
        due("the fifth", x.names(4), 5);
        due("a sixth", x.names(0), STATE);
    }

    private void promise10Asks() {
        AskedMaps x = Check.made(RING);
        Check.draft(x, 0, 3, 2, 1);
        due("asks()", x.asks(), 4);
        int[] lengths = {3, 1, 1, 1};
        for (int l = 0; l < 4; l++) {
            due("LENGTH of " + l, x.lane(l, 2), lengths[l]);
        }
        due("DUG", x.now(2), 4);
        due("MAPS", x.count(2), 1);
        due("THE DRAFT", x.now(1), 0);
        due("PLACES of the MAP", x.map(0, 0), 4);
        due("its second", x.place(0, 1), 3);
        due("it HOLDS", x.now(0), 1);
        due("what may be UNDONE", x.now(3), 5);
        Check.draft(x, 3, 2);
        due("asks() that costs nothing", x.asks(), 0);
        due("DUG as it was", x.now(2), 4);
        due("the second MAP", x.place(1, 0), 3);
    }

    private void promise10Refused() {
        AskedMaps x = Check.made(THREE + "m0 1;m0 1;m0 1;");
        due("asks() without a DRAFT", x.asks(), STATE);
        x.names(0);
        due("asks() of one PLACE", x.asks(), STATE);
        x.names(1);
        due("asks() for the fourth", x.asks(), 0);
        Check.draft(x, 0, 1);
        due("asks() for a fifth", x.asks(), STATE);
        due("THE DRAFT stays", x.now(1), 2);
        x = Check.made(THREE + "m0 1 2;");
        Check.draft(x, 0, 2, 1);
        due("asks() without ASKING", x.asks(), STATE);
        due("THE DRAFT stays", x.now(1), 3);
        due("LENGTHS stay", x.lane(2, 2), 1);
        due("nothing to be UNDONE came", x.now(3), 3);
    }

    private void promise11Digs() {
        AskedMaps x = Check.made(RING + "m0 1;");
        for (int wrong : new int[] {-1, 4, LOW, HIGH}) {
            due("digs(" + wrong + ", 2)", x.digs(wrong, 2), BAD);
        }
        for (int wrong : new int[] {0, 6, LOW, HIGH}) {
            due("digs(0, " + wrong + ")", x.digs(0, wrong), BAD);
        }
        due("digs(0, 1)", x.digs(0, 1), STATE);
        due("nothing to be UNDONE yet", x.now(3), 0);
        due("digs(0, 5)", x.digs(0, 5), 1);
        due("LENGTH", x.lane(0, 2), 5);
        due("DUG", x.now(2), 8);
        due("the MAP holds no more", x.now(0), 0);
        due("digs(0, 2)", x.digs(0, 2), 5);
        due("DUG by both", x.now(2), 14);
        due("what may be UNDONE", x.now(3), 2);
    }

    private void promise12Burns() {
        AskedMaps x = Check.made(CHAIN + "m0 1;m1 2;m2 3 4;m4 3;");
        for (int wrong : new int[] {-1, 4, LOW, HIGH}) {
            due("burns(" + wrong + ")", x.burns(wrong), BAD);
        }
        due("burns(1)", x.burns(1), 3);
        due("map 0", x.place(0, 0), 0);
        due("map 1 was 2", x.place(1, 2), 4);
        due("map 2 was 3", x.place(2, 0), 4);
        due("no map 3", x.place(3, 0), BAD);
        due("burns(2)", x.burns(2), 2);
        due("burns(0)", x.burns(0), 1);
        due("map 0 was 2", x.map(0, 0), 3);
        due("burns(0)", x.burns(0), 0);
        due("burns(0) of none", x.burns(0), BAD);
        due("what may be UNDONE", x.now(3), 4);
    }

    private void promise13Wipes() {
        AskedMaps x = Check.made(RING);
        due("wipes() of nothing", x.wipes(), STATE);
        x.names(2);
        due("wipes() of one", x.wipes(), 1);
        Check.draft(x, 0, 1, 2);
        due("wipes()", x.wipes(), 3);
        due("THE DRAFT", x.now(1), 0);
        due("wipes() again", x.wipes(), STATE);
        due("what may be UNDONE", x.now(3), 6);
    }

    private void promise14Undo() {
        AskedMaps x = Check.made(RING);
        due("undo() of nothing", x.undo(), STATE);
        for (int i = 0; i < 11; i++) {
            x.digs(0, 2 + i % 2);
        }
        due("11 done, 10 known", x.now(3), 10);
        for (int left = 9; left >= 0; left--) {
            due("undo()", x.undo(), left);
        }
        due("undo() of what is lost", x.undo(), STATE);
        due("LENGTH by the one that is lost", x.lane(0, 2), 2);
        due("DUG by the one that is lost", x.now(2), 2);
        x.digs(0, 5);
        due("what may be UNDONE then", x.now(3), 1);
    }

    private void promise14UndoAll() {
        AskedMaps x = Check.made(RING + "m0 1;");
        Check.draft(x, 0, 3, 2, 1);
        x.took(0, 1);
        x.asks();
        due("undo() of asks()", x.undo(), 4);
        due("LENGTH", x.lane(0, 2), 1);
        due("DUG", x.now(2), 0);
        due("MAPS", x.count(2), 1);
        due("THE DRAFT", x.now(1), 4);
        due("TOOK stays", x.count(3), 1);
        due("ASKING is as it was", x.asking(-1), 4);
        due("undo() of names()", x.undo(), 3);
        due("THE DRAFT", x.now(1), 3);
        x.wipes();
        due("undo() of wipes()", x.undo(), 3);
        due("THE DRAFT", x.place(-1, 2), 2);
        x.burns(0);
        due("undo() of burns()", x.undo(), 3);
        due("the MAP", x.place(0, 1), 1);
        x.digs(1, 4);
        due("undo() of digs()", x.undo(), 3);
        due("LENGTH", x.lane(1, 2), 1);
        due("DUG", x.now(2), 0);
    }

    // ---- the land as it is

    private void landAsItIs() {
        AskedMaps x = Check.made("n5;l0 1 1 2;l1 2 1 3;l2 3 1 4;l3 0 1 5;");
        due("promise 15: far(0, 2)", x.far(0, 2), 2);
        due("far(2, 0)", x.far(2, 0), 2);
        due("far(3, 3)", x.far(3, 3), 0);
        due("far(4, 4)", x.far(4, 4), 0);
        due("far(0, 4)", x.far(0, 4), NONE);
        due("promise 16: by(0, 2)", x.by(0, 2), 2);
        due("by(3, 1)", x.by(3, 1), 2);
        due("by(0, 1)", x.by(0, 1), 1);
        due("by(4, 1)", x.by(4, 1), 0);
        due("by(2, 2)", x.by(2, 2), BAD);
        due("promise 17: knot(0)", x.knot(0), 7);
        due("knot(4)", x.knot(4), 0);
        x.digs(0, 5);
        due("knot(0)", x.knot(0), 15);
        due("far(0, 1) round", x.far(0, 1), 3);
        due("by(0, 2)", x.by(0, 2), 1);
        for (int wrong : new int[] {-1, 5, LOW, HIGH}) {
            due("far(" + wrong + ", 0)", x.far(wrong, 0), BAD);
            due("far(0, " + wrong + ")", x.far(0, wrong), BAD);
            due("far(alike, " + wrong + ")", x.far(wrong, wrong), BAD);
            due("by(" + wrong + ", 0)", x.by(wrong, 0), BAD);
            due("by(0, " + wrong + ")", x.by(0, wrong), BAD);
            due("knot(" + wrong + ")", x.knot(wrong), BAD);
        }
        x = Check.made("n5;l0 1 1 1;l0 2 1 1;l0 3 1 1;l4 1 1 1;l4 2 1 1;l4 3 1 1;");
        due("by(0, 4) of three", x.by(0, 4), 3);
        x.digs(0, 2);
        due("by(0, 4) of two", x.by(0, 4), 2);
        due("WAYS of it", x.spite(2), 33);
    }

    // ---- asking

    private void asking() {
        promise18Asking();
        promise19Clash();
        promise20Fire();
        promise21Spite();
        promise22Spiteful();
        promise23Odds();
        answersAreOfNow();
    }

    private void promise18Asking() {
        AskedMaps x = Check.made(RING + "m0 3 2 1;");
        due("asking(-1)", x.asking(-1), 4);
        int[] lengths = {3, 1, 1, 1};
        for (int l = 0; l < 4; l++) {
            due("asking(" + l + ")", x.asking(l), lengths[l]);
        }
        for (int wrong : new int[] {-2, 4, LOW, HIGH}) {
            due("asking(" + wrong + ")", x.asking(wrong), BAD);
        }
        due("nothing is changed", x.lane(0, 2), 1);
        x.burns(0);
        due("asking(-1) of no MAP", x.asking(-1), 0);
        x.names(0);
        due("one PLACE is no MAP", x.asking(-1), 0);
        Check.draft(x, 1, 2, 3);
        due("asking(-1) of THE DRAFT", x.asking(-1), 10);
        due("asking(3)", x.asking(3), 3);
        x = Check.made("n3;l0 1 3 1;l1 2 3 1;l0 2 5 1;m0 1 2;");
        due("of several the first: cost", x.asking(-1), 1);
        due("asking(0)", x.asking(0), 2);
        due("asking(1)", x.asking(1), 3);
        due("asking(2)", x.asking(2), 5);
        x = Check.made("n3;l0 1 5 1;l1 2 1 1;l0 2 1 1;m0 2;");
        due("a LANE that nobody asked for may be long", x.asking(-1), 0);
        x = Check.made(THREE + "m0 1 2;m0 2 1;");
        due("asking(-1), NONE", x.asking(-1), NONE);
        due("asking(0), NONE", x.asking(0), NONE);
        due("asking(3), BAD ahead of NONE", x.asking(3), BAD);
    }

    private void promise19Clash() {
        AskedMaps x = new AskedMaps();
        due("clash() of nothing", x.clash(), 0);
        x = Check.made(THREE + "m0 1 2;m0 1;m0 2 1;m1 0 2;");
        due("clash() of several pairs the least", x.clash(), 5);
        x.burns(0);
        due("clash()", x.clash(), 6);
        x.burns(2);
        due("clash() of none", x.clash(), 0);
        Check.draft(x, 0, 1, 2);
        due("clash() with THE DRAFT", x.clash(), 2);
        x.burns(1);
        due("clash() of THE DRAFT alone", x.clash(), 0);
        x = Check.made("n4;l2 3 1 1;l1 3 1 1;l0 3 1 1;l0 1 1 1;l0 2 1 1;l1 2 1 1;m1 3 2;m2 1 0;m0 2 3;");
        due("clash() of three, any two of which are fine", x.clash(), 7);
        Check.draft(x, 0, 1);
        due("THE DRAFT is no part of it", x.clash(), 7);
    }

    private void promise20Fire() {
        AskedMaps x = Check.made("n3;l0 1 1 5;l1 2 1 1;l0 2 1 1;m0 1 2;m0 2 1;");
        due("fire(0)", x.fire(0), 1);
        due("fire(1)", x.fire(1), 1);
        x.burns(1);
        due("fire(0) of one", x.fire(0), 0);
        due("fire(1) of one", x.fire(1), 0);
        x.burns(0);
        due("fire(0) of none", x.fire(0), NONE);
        due("fire(1) of none", x.fire(1), NONE);
        for (int wrong : new int[] {-1, 2, LOW, HIGH}) {
            due("fire(" + wrong + ")", x.fire(wrong), BAD);
        }
        x = Check.made(THREE + "m0 1 2;m0 2 1;");
        due("fire(0) of like ones", x.fire(0), 0);
        due("fire(1) of like ones", x.fire(1), 1);
        x = Check.made(THREE + "m0 1 2;m0 2 1;m1 0 2;");
        due("fire(0), not even then", x.fire(0), 0);
        due("fire(1), not even then", x.fire(1), NONE);
        x = Check.made(THREE + "m0 1;m0 2 1;");
        Check.draft(x, 0, 1, 2);
        due("fire(0), NONE is dearest", x.fire(0), 1);
        due("fire(1), with THE DRAFT", x.fire(1), 1);
    }

    private void promise21Spite() {
        AskedMaps x = new AskedMaps();
        due("spite(0) of no WAY", x.spite(0), NONE);
        due("spite(1) of no WAY", x.spite(1), 0);
        due("spite(2) of no WAY", x.spite(2), 0);
        x = Check.made(THREE);
        due("spite(0)", x.spite(0), 1);
        due("spite(1)", x.spite(1), 0);
        due("spite(2)", x.spite(2), 6);
        for (int wrong : new int[] {-1, 3, LOW, HIGH}) {
            due("spite(" + wrong + ")", x.spite(wrong), BAD);
        }
        x = Check.made(THREE + "m0 1 2;");
        due("spite(0) with a MAP", x.spite(0), 1);
        due("spite(1) with a MAP", x.spite(1), 2);
        x = Check.made(THREE + "m0 1 2;m0 2 1;");
        due("spite(0), all are NONE", x.spite(0), NONE);
        due("spite(1), all are NONE", x.spite(1), 6);
        due("spiteful(0), all are NONE", x.spiteful(0), NONE);
        x.names(0);
        for (int what = 0; what < 3; what++) {
            due("spite(" + what + ") with a DRAFT", x.spite(what), STATE);
        }
        due("spite(3) with a DRAFT", x.spite(3), BAD);
        x = Check.made(RING);
        due("spite(0) of the ring", x.spite(0), 10);
        x.digs(3, 3);
        due("spite(0) behind a DIG", x.spite(0), 16);
    }

    private void promise22Spiteful() {
        AskedMaps x = Check.made(THREE);
        int[] want = {0, 1, 2, NONE, NONE};
        for (int k = 0; k < 5; k++) {
            due("spiteful(" + k + ")", x.spiteful(k), want[k]);
        }
        for (int wrong : new int[] {-1, 5, LOW, HIGH}) {
            due("spiteful(" + wrong + ")", x.spiteful(wrong), BAD);
        }
        x = Check.made(THREE + "m0 1 2;");
        due("a shorter one ahead of a longer one", x.spiteful(2), NONE);
        due("its end", x.spiteful(1), 1);
        x = Check.made(CHAIN);
        due("all cost 0: the first", x.spiteful(1), 1);
        due("all cost 0: its length", x.spiteful(2), NONE);
        x.names(4);
        due("spiteful(0) with a DRAFT", x.spiteful(0), STATE);
        due("spiteful(5) with a DRAFT", x.spiteful(5), BAD);
        x = new AskedMaps();
        due("spiteful(0) of no WAY", x.spiteful(0), NONE);
    }

    private void promise23Odds() {
        AskedMaps x = Check.made(THREE + "m0 1 2;m0 2 1;");
        int[][] want = {{0, 0, 1}, {3, 51, 100}, {5, 3, 4}, {8, 24, 25}, {10, 1, 1}};
        for (int[] w : want) {
            due("odds(" + w[0] + ", 0)", x.odds(w[0], 0), w[1]);
            due("odds(" + w[0] + ", 1)", x.odds(w[0], 1), w[2]);
        }
        for (int wrong : new int[] {-1, 11, LOW, HIGH}) {
            due("odds(" + wrong + ", 0)", x.odds(wrong, 0), BAD);
        }
        for (int wrong : new int[] {-1, 2, LOW, HIGH}) {
            due("odds(1, " + wrong + ")", x.odds(1, wrong), BAD);
        }
        Check.draft(x, 1, 0, 2);
        due("odds(3, 0) with THE DRAFT", x.odds(3, 0), 9);
        due("odds(3, 1) with THE DRAFT", x.odds(3, 1), 100);
        x = Check.made(THREE + "m0 1 2;m0 1;m0 2;m1 2;");
        due("odds of MAPS that do not clash", x.odds(7, 0), 1);
        due("lower number", x.odds(7, 1), 1);
        x = new AskedMaps();
        due("odds of no MAPS", x.odds(0, 0), 1);
        due("lower number", x.odds(0, 1), 1);
    }

    /** ASKING and SPITE are kept between calls, but never for another NOW. */
    private void answersAreOfNow() {
        AskedMaps x = Check.made(RING);
        x.keep(0);
        due("spite(0)", x.spite(0), 10);
        due("spite(1)", x.spite(1), 0);
        x.digs(3, 5);
        due("spite(0) behind digs()", x.spite(0), 26);
        due("spiteful(0) behind digs()", x.spiteful(0), 2);
        due("spiteful(1) behind digs()", x.spiteful(1), 1);
        x.undo();
        due("spite(0) behind undo()", x.spite(0), 10);
        x.digs(3, 5);
        due("spite(0) behind digs()", x.spite(0), 26);
        x.back(0);
        due("spite(0) behind back()", x.spite(0), 10);
        due("spiteful(1) behind back()", x.spiteful(1), 1);
        Check.land(x, THREE + "m0 1 2;");
        due("spite(0) behind land()", x.spite(0), 1);
        due("spite(1) behind land()", x.spite(1), 2);
        due("spite(2) behind land()", x.spite(2), 6);
        due("asking(-1)", x.asking(-1), 1);
        x.burns(0);
        due("spite(1) behind burns()", x.spite(1), 0);
        due("asking(-1) behind burns()", x.asking(-1), 0);
        x.undo();
        due("asking(-1) behind undo()", x.asking(-1), 1);
        Check.land(x, "l0 1 1 1;");
        due("asking(-1) behind land()", x.asking(-1), 0);
        due("asking(0) behind land()", x.asking(0), 1);
        Check.land(x, "n4;l0 1 5 2;l1 2 1 3;l2 3 1 4;l3 0 1 5;m1 0;");
        due("a LANE longer than the way round", x.now(0), 0);
        due("asking(-1)", x.asking(-1), 4);
        due("asking(0)", x.asking(0), 3);
        x.digs(0, 3);
        due("as long as the way round", x.now(0), 1);
        due("by(0, 1) at once", x.by(0, 1), 2);
    }

    // ---- a stranger

    private void stranger() {
        AskedMaps x = Check.made(THREE);
        due("promise 26: can(0)", x.can(0), 3);
        due("can(1)", x.can(1), 0);
        due("can(2)", x.can(2), 7);
        due("promise 27: look()", x.look(), 0);
        due("promise 24: took(0, 0)", x.took(0, 0), 1);
        due("can(0)", x.can(0), 2);
        due("can(2)", x.can(2), 6);
        due("look()", x.look(), 1);
        due("took(1, 1)", x.took(1, 1), 2);
        due("can(0)", x.can(0), 1);
        due("can(1)", x.can(1), 2);
        due("look() at one", x.look(), NONE);
        due("took(1, 0)", x.took(1, 0), 3);
        due("can(0) of none", x.can(0), 0);
        due("can(1) of none", x.can(1), NONE);
        due("can(2) of none", x.can(2), 0);
        due("look() at none", x.look(), NONE);
        for (int wrong : new int[] {-1, 3, LOW, HIGH}) {
            due("took(" + wrong + ", 0)", x.took(wrong, 0), BAD);
            due("can(" + wrong + ")", x.can(wrong), BAD);
        }
        for (int wrong : new int[] {-1, 2, LOW, HIGH}) {
            due("took(0, " + wrong + ")", x.took(0, wrong), BAD);
        }
        due("took(0, 0)", x.took(0, 0), 4);
        due("took(0, 0)", x.took(0, 0), 5);
        due("took(0, 0)", x.took(0, 0), 6);
        due("took(0, 0), a seventh", x.took(0, 0), FULL);
        due("took(3, 0), BAD ahead of FULL", x.took(3, 0), BAD);
        due("TOOK", x.count(3), 6);
        due("not to be UNDONE", x.undo(), STATE);
        due("promise 25: forget()", x.forget(), 6);
        due("forget() of nothing", x.forget(), 0);
        due("can(0) again", x.can(0), 3);
        x.digs(2, 2);
        due("can(0) by LENGTHS as they are", x.can(0), 4);
        x.digs(2, 3);
        due("can(0)", x.can(0), 3);
        due("can(2)", x.can(2), 3);
        x = new AskedMaps();
        due("can(0) of no LANES", x.can(0), 0);
        due("can(1) of no LANES", x.can(1), NONE);
        due("can(2) of no LANES", x.can(2), 0);
        due("look() of no LANES", x.look(), NONE);
        x = Check.made(RING);
        due("look() first of all", x.look(), 0);
        x = Check.made("n3;l0 2 5 5;l0 1 1 1;l1 2 1 1;");
        due("look() at LANES that are taken only", x.look(), 1);
        x = Check.made("l0 1 3 3;");
        due("look() at one WAY", x.look(), NONE);
        due("can(1) of one WAY", x.can(1), 1);
    }

    // ---- kinds, images

    private void kindsAndImages() {
        promise28Rate();
        promise29And30Images();
        promise31Count();
    }

    private void promise28Rate() {
        AskedMaps x = Check.made("n3;l0 1 2 3;l1 2 4 7;m0 1 2;m1 2;m2 1;");
        x.digs(0, 3);
        int[] want = {4, 11, 1, 22, 2, 7};
        long[] adds = {1, 11, 101, 1011, 10101, 100001};
        long trace = 0;
        for (int kind = 0; kind < 6; kind++) {
            due("rate(" + kind + ", 1)", x.rate(kind, 1), want[kind]);
            trace += adds[kind];
            due("promise 32: trace()", x.trace(), trace);
        }
        for (int wrong : new int[] {-1, 6, LOW, HIGH}) {
            due("rate(" + wrong + ", 0)", x.rate(wrong, 0), NO);
        }
        for (int wrong : new int[] {-1, 2, LOW, HIGH}) {
            due("rate(0, " + wrong + ")", x.rate(0, wrong), NO);
        }
        due("trace() of what was refused", x.trace(), trace);
        x = Check.made("l0 1 1 1;m0 1;m0 1;m0 1;m0 1;");
        due("rate(2, 0) below 0", x.rate(2, 0), -3);
        due("rate(4, 0) below 0", x.rate(4, 0), -3);
        for (int i = 0; i < 400; i++) {
            x.rate(5, 0);
        }
        due("trace() of many", x.trace(), 101 + 10101 + 400 * 100001L);
    }

    private void promise29And30Images() {
        AskedMaps x = Check.made(RING + "m0 1;");
        for (int wrong : new int[] {-1, 2, LOW, HIGH}) {
            due("keep(" + wrong + ")", x.keep(wrong), BAD);
            due("back(" + wrong + ")", x.back(wrong), BAD);
        }
        due("back(0) of none", x.back(0), STATE);
        Check.draft(x, 0, 3, 2, 1);
        due("keep(0)", x.keep(0), 1);
        due("keep() changes nothing", x.now(3), 4);
        x.took(2, 1);
        x.asks();
        due("keep(1)", x.keep(1), 2);
        x.burns(0);
        x.digs(1, 5);
        x.type(110);
        x.rate(0, 0);
        due("back(0)", x.back(0), 1);
        due("THE DRAFT", x.now(1), 4);
        due("LENGTH", x.lane(0, 2), 1);
        due("LENGTH", x.lane(1, 2), 1);
        due("DUG", x.now(2), 0);
        due("nothing can be UNDONE", x.undo(), STATE);
        due("now(3)", x.now(3), 0);
        due("TOOK stays", x.count(3), 1);
        due("THE TEXT stays", x.count(4), 1);
        due("THE TRACE stays", x.trace(), 1);
        due("ASKING", x.asking(-1), 4);
        due("back(1)", x.back(1), 2);
        due("DUG", x.now(2), 4);
        due("LENGTH", x.lane(0, 2), 3);
        due("MAP", x.map(1, 0), 4);
        due("back(0) once more", x.back(0), 1);
        x.wipes();
        due("keep(0) anew", x.keep(0), 1);
        x.names(0);
        x.back(0);
        due("THE DRAFT of the new IMAGE", x.now(1), 0);
    }

    private void promise31Count() {
        AskedMaps x = Check.made(CHAIN + "m0 1;m2 3;m4 3;");
        x.took(0, 0);
        x.took(0, 1);
        Check.write(x, "n3;l");
        int[] want = {5, 4, 3, 2, 4};
        for (int what = 0; what < 5; what++) {
            due("count(" + what + ")", x.count(what), want[what]);
        }
        for (int wrong : new int[] {-1, 5, LOW, HIGH}) {
            due("count(" + wrong + ")", x.count(wrong), BAD);
        }
    }
}
