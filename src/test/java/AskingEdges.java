/** Part 3 of the terms but the stranger, and promises 15 to 23: how far it is, what asking costs. */
final class AskingEdges {
    private static final int BAD = AskedMaps.BAD, STATE = AskedMaps.STATE, NONE = AskedMaps.NONE;
    private static final int LOW = Integer.MIN_VALUE, HIGH = Integer.MAX_VALUE;

    private final Document doc;

    AskingEdges(Document doc) {
        this.doc = doc;
    }

    void run() {
        farAndBy();
        askingLengths();
        askingOfWhat();
        askingFirst();
        clashFewest();
        clashDraft();
        fire();
        fireNone();
        spiteMost();
        spiteFirst();
        odds();
        knot();
        promises15To17();
        promises18And19();
        promise20();
        promises21And22();
        promise23();
    }

    private void due(String call, long got, long want) {
        doc.due(call, got, want);
    }

    private void farAndBy() {
        doc.says("FAR between two PLACES: the least LENGTH of a WAY; NONE.");
        AskedMaps x = Check.made("n5;l0 1 5 1;l1 2 5 1;l2 3 5 1;l3 4 5 1;");
        due("by four LANES of 5", x.far(0, 4), 20);
        due("the other way", x.far(4, 0), 20);
        due("by one", x.far(3, 4), 5);
        due("to itself", x.far(2, 2), 0);
        x = Check.made("n4;l0 1 1 1;l2 3 1 1;");
        due("no WAY", x.far(1, 2), NONE);
        due("no WAY back", x.far(2, 1), NONE);
        due("a WAY", x.far(3, 2), 1);
        x = Check.made("n3;l0 1 5 1;l1 2 1 1;l0 2 1 1;");
        due("round, as its LANE is longer", x.far(0, 1), 2);
        x.digs(0, 1);
        due("by its LANE", x.far(0, 1), 1);
        due("alike ones without LANES", new AskedMaps().far(1, 1), 0);
        doc.says("BY between two unlike ones: how many WAYS there are of that LENGTH.");
        due("one", x.by(0, 1), 1);
        x.digs(0, 2);
        due("two", x.by(1, 0), 2);
        x.digs(0, 3);
        due("only the shorter one", x.by(1, 0), 1);
        due("three", Check.made(Lands.SIX).by(4, 0), 3);
        due("none", new AskedMaps().by(0, 1), 0);
    }

    // ---- ASKING

    private void askingLengths() {
        doc.says("ASKING: of all LENGTHS (1 .. 5 each)");
        AskedMaps x = Check.made("n3;l0 2 5 1;l0 1 3 9;l1 2 3 9;m0 1 2;");
        due("a LANE of 5 can't be 6 for 1", x.asking(-1), 9);
        due("it stays 5", x.asking(0), 5);
        x = Check.made("n3;l0 2 1 9;l0 1 1 1;l1 2 1 1;m0 1 2;");
        due("a LANE of 1 can't be 0 for 1", x.asking(-1), 9);
        due("the other one is 2", x.asking(0), 2);
        x = Check.made("n3;l0 2 1 1;l0 1 5 1;l1 2 5 1;m0 1 2;");
        due("nine steps", x.asking(-1), 9);
        due("LANE 0 first, which must be 2", x.asking(0), 2);
        due("LANE 1 is as short as can be", x.asking(1), 1);
        due("so is LANE 2", x.asking(2), 1);
        x = Check.made("n4;l0 3 1 9;l0 1 5 9;l1 2 5 9;l2 3 5 9;m0 1 2 3;");
        due("as dear as a ring of four can be", x.asking(-1), 126);
        due("LANE 0 must be 3", x.asking(0), 3);
        doc.says("by which all MAPS hold,");
        x = Check.made(Lands.TWO + "m0 1 2;m2 3 4;");
        due("both cost 1", x.asking(-1), 2);
        x.burns(1);
        due("one costs 1", x.asking(-1), 1);
        x.burns(0);
        due("no MAPS", x.asking(-1), 0);
        x = Check.made(Lands.TWO + "m0 1 2;m2 3 4;m2 3;m0 2;");
        due("four of them", x.asking(-1), 2);
        x = Check.made(Lands.TWO + "m2 3;m0 2;m2 4;m3 4 2;");
        due("the fourth counts", x.asking(-1), 1);
    }

    private void askingOfWhat() {
        doc.says("and THE DRAFT (if it has 2 PLACES or more) as if it were one,");
        AskedMaps x = Check.made("n3;l0 1 3 7;l1 2 1 9;l0 2 1 9;");
        due("an empty DRAFT", x.asking(-1), 0);
        x.names(0);
        due("one PLACE", x.asking(-1), 0);
        x.names(1);
        due("two", x.asking(-1), 7);
        due("LANE 0", x.asking(0), 2);
        x.wipes();
        due("wiped", x.asking(-1), 0);
        x = Check.made(Lands.CHAIN);
        Check.draft(x, 0, 1, 2, 3, 4);
        due("five, the only WAY", x.asking(-1), 0);
        x = Check.made("n3;l0 1 3 7;l1 2 1 9;l0 2 1 9;m0 1;m0 1;m0 1;m0 1;");
        Check.draft(x, 1, 0);
        due("beside four MAPS", x.asking(-1), 7);
        x = Check.made(Lands.ALL + "m0 1;m0 2;m0 3;m1 2;");
        x.digs(1, 5);
        due("four MAPS, each between ends with five WAYS", x.asking(-1), 0);
        Check.draft(x, 1, 3);
        due("and a DRAFT of such, which has LANE 1 dug from 5 to 2", x.asking(-1), 3);
        due("LANE 1", x.asking(1), 2);
        x = Check.made("n4;l2 3 1 1;l1 3 3 1;l0 3 2 1;l0 1 2 1;l0 2 2 1;l1 2 1 1;m0 1;m0 2;m0 3;m1 2;");
        Check.draft(x, 1, 3);
        due("and a DRAFT longer than the last of the other four WAYS alone", x.asking(-1), 1);
        doc.says("those by which what is dug costs least (SPADES of each LANE times what its LENGTH changes, together),");
        x = Check.made("n3;l0 1 4 5;l1 2 4 4;l0 2 5 2;m0 1 2;");
        due("3 steps of 4", x.asking(-1), 12);
        due("the dear LANE stays", x.asking(0), 4);
        due("the cheap one is dug", x.asking(1), 1);
        x = Check.made("n3;l0 1 4 5;l1 2 4 4;l0 2 3 2;m0 1 2;");
        due("2 steps of 2 and 3 of 4", x.asking(-1), 16);
        due("LANE 2 longer", x.asking(2), 5);
        due("what holds costs nothing", Check.made(Lands.RING + "m0 1 2;m1 0;").asking(-1), 0);
    }

    private void askingFirst() {
        doc.says("of several the first (LANE 0's LENGTH, then 1's, ..):");
        AskedMaps x = Check.made("n3;l0 1 3 1;l1 2 3 1;l0 2 5 1;m0 1 2;");
        lengths(x, 2, 3, 5);
        x = Check.made("n3;l0 2 3 1;l0 1 2 1;l1 2 2 1;m0 1 2;");
        lengths(x, 3, 1, 2);
        x = Check.made("n3;l0 2 3 1;l0 1 1 1;l1 2 3 1;m0 1 2;");
        lengths(x, 3, 1, 2);
        x = Check.made("n3;l0 1 3 1;l0 2 2 1;l1 2 2 1;m0 2 1;");
        lengths(x, 3, 1, 2);
        x = Check.made("n3;l0 1 2 1;l0 2 4 1;l1 2 3 1;m0 1 2;");
        lengths(x, 1, 4, 3);
        doc.says("what it costs; LENGTH of a LANE; NONE.");
        x = Check.made("l0 1 5 9;m0 1;");
        due("asking(-1)", x.asking(-1), 0);
        due("asking(0)", x.asking(0), 5);
        x = Check.made(Lands.THREE + "m0 1 2;m0 2 1;");
        for (int l = -1; l < 3; l++) {
            due("asking(" + l + ") of what can't be", x.asking(l), NONE);
        }
        x.burns(1);
        due("asking(-1) of what can", x.asking(-1), 1);
        due("asking(2)", x.asking(2), 2);
    }

    private void lengths(AskedMaps x, int... want) {
        for (int l = 0; l < want.length; l++) {
            due("LENGTH of " + l + " in ASKING", x.asking(l), want[l]);
        }
    }

    // ---- CLASH

    private void clashFewest() {
        doc.says("CLASH: the fewest MAPS");
        due("two, though three with lower numbers clash",
                Check.made(Lands.ALL + "m1 3 2;m2 1 0;m0 2 3;m0 3 2;").clash(), 12);
        due("three", Check.made(Lands.ALL + "m1 3 2;m2 1 0;m0 2 3;").clash(), 7);
        due("three, the last of four", Check.made(Lands.ALL + "m0 1;m1 3 2;m2 1 0;m0 2 3;").clash(), 14);
        due("the same MAP twice clashes with one", Check.made(Lands.THREE + "m0 1 2;m0 1 2;m0 2 1;").clash(), 5);
        doc.says("(bits; of as few the least)");
        due("6 ahead of 9", Check.made(Lands.TWO + "m0 1 2;m2 3 4;m2 4 3;m0 2 1;").clash(), 6);
        due("3 ahead of 12", Check.made(Lands.TWO + "m0 1 2;m0 2 1;m2 3 4;m2 4 3;").clash(), 3);
        due("5 ahead of 6 and 3 of none", Check.made(Lands.THREE + "m0 1 2;m0 1;m0 2 1;m1 0 2;").clash(), 5);
        due("the last two", Check.made(Lands.THREE + "m0 1;m0 2;m0 1 2;m0 2 1;").clash(), 12);
    }

    private void clashDraft() {
        doc.says("such that there are no LENGTHS by which these, and THE DRAFT likewise, all hold;");
        AskedMaps x = Check.made(Lands.THREE + "m0 1;m0 1 2;");
        Check.draft(x, 0, 2);
        due("a DRAFT that is fine", x.clash(), 0);
        x.names(1);
        due("a DRAFT that clashes with one", x.clash(), 2);
        x.undo();
        x.undo();
        due("a DRAFT of one PLACE", x.clash(), 0);
        x = Check.made(Lands.ALL + "m1 3 2;m2 1 0;");
        Check.draft(x, 0, 2, 3);
        due("a DRAFT that clashes with two together", x.clash(), 3);
        x = Check.made(Lands.TWO + "m0 1 2;m0 2 1;m2 3 4;");
        Check.draft(x, 2, 4, 3);
        due("one that clashes with THE DRAFT is fewer than two", x.clash(), 4);
        x = Check.made("n3;l0 1 5 1;l1 2 5 1;l0 2 1 1;m0 1 2;");
        due("a MAP that does not hold yet can hold", x.clash(), 0);
        doc.says("0: there are none such.");
        due("no MAPS", new AskedMaps().clash(), 0);
        due("four that do not clash", Check.made(Lands.TWO + "m0 1 2;m2 3 4;m0 1;m4 3 2;").clash(), 0);
        x = Check.made(Lands.SIX);
        Check.draft(x, 0, 1, 4, 2);
        due("THE DRAFT alone", x.clash(), 0);
    }

    // ---- FIRE

    private void fire() {
        doc.says("FIRE: the MAP without which ASKING costs least");
        AskedMaps x = Check.made("n5;l0 1 1 5;l1 2 1 5;l0 2 1 5;l2 3 1 7;l3 4 1 7;l2 4 1 7;m0 1 2;m2 3 4;m0 1;");
        due("the dearest one", x.fire(0), 1);
        due("the rest costs 5", x.fire(1), 5);
        x.burns(1);
        due("then the other one", x.fire(0), 0);
        due("the rest costs nothing", x.fire(1), 0);
        x = Check.made("n3;l0 1 3 7;l1 2 1 9;l0 2 1 9;m1 2;");
        Check.draft(x, 0, 1);
        due("THE DRAFT can't be lost", x.fire(0), 0);
        due("it costs on", x.fire(1), 7);
        x = Check.made(Lands.TWO + "m0 1;m0 2;m1 2;m2 3 4;");
        due("the last of four", x.fire(0), 3);
        due("the rest costs nothing", x.fire(1), 0);
        doc.says("(NONE is dearest),");
        x = Check.made(Lands.THREE + "m0 1;m0 2;m0 2 1;m0 1 2;");
        due("without the others it is NONE yet", x.fire(0), 2);
        due("what it costs", x.fire(1), 1);
        doc.says("of several the lowest: which;");
        due("as dear ones", Check.made(Lands.THREE + "m0 1 2;m0 2 1;").fire(0), 0);
        due("ones for nothing", Check.made(Lands.CHAIN + "m0 1;m1 2;m2 3;m3 4;").fire(0), 0);
        due("two of three", Check.made(Lands.TWO + "m0 1;m0 1 2;m2 3 4;").fire(0), 1);
    }

    private void fireNone() {
        doc.says("what it costs then (NONE: not even then);");
        AskedMaps x = Check.made(Lands.THREE + "m0 1 2;m0 2 1;m1 0 2;");
        due("which, of three that clash two by two", x.fire(0), 0);
        due("what it costs", x.fire(1), NONE);
        x.burns(2);
        due("what it costs for one of two", x.fire(1), 1);
        due("nothing", Check.made("l0 1 1 1;m0 1;").fire(1), 0);
        doc.says("NONE (no MAPS).");
        x = Check.made(Lands.THREE);
        due("which", x.fire(0), NONE);
        due("what it costs", x.fire(1), NONE);
        Check.draft(x, 0, 1, 2);
        due("which, with a DRAFT", x.fire(0), NONE);
        due("what it costs, with a DRAFT", x.fire(1), NONE);
    }

    // ---- SPITE

    private void way(AskedMaps x, int... want) {
        for (int k = 0; k < 5; k++) {
            due("spiteful(" + k + ")", x.spiteful(k), k < want.length ? want[k] : NONE);
        }
    }

    private void spiteMost() {
        doc.says("SPITE: of all WAYS (from the lower end to the higher one)");
        AskedMaps x = Check.made("l1 0 1 1;");
        due("one WAY, told from 1 to 0", x.spite(2), 1);
        way(x, 0, 1);
        x = Check.made("n4;l3 1 1 1;l2 3 1 1;l2 1 1 9;");
        due("the cost of 1 3 2", x.spite(0), 9);
        way(x, 1, 3, 2);
        x = Check.made("n3;l2 1 5 9;l2 0 1 1;l0 1 1 1;");
        due("0 1 2 has LANE 0 dug by 1 and LANE 1 by 4", x.spite(0), 13);
        way(x, 0, 1, 2);
        doc.says("that of which, were it THE DRAFT, ASKING would cost most (not NONE),");
        x = Check.made("n3;l0 1 1 1;l1 2 1 2;l0 2 1 3;");
        due("0 1 2 has LANE 2 dug", x.spite(0), 3);
        way(x, 0, 1, 2);
        x = Check.made("n3;l0 1 1 1;l1 2 1 2;l0 2 1 3;m0 1;");
        due("with a MAP, too", x.spite(0), 3);
        x = Check.made(Lands.THREE + "m0 2 1;");
        due("those that can't be asked for do not count", x.spite(0), 1);
        way(x, 0, 1);
        x = Check.made(Lands.THREE + "m0 2 1;m0 1 2;");
        due("if none can", x.spite(0), NONE);
        way(x);
        x = Check.made(Lands.CHAIN);
        due("all cost nothing", x.spite(0), 0);
        x = Check.made(Lands.THREE + "m0 1;m0 2 1;m0 2;m1 2;");
        due("with four MAPS, too", x.spite(0), 1);
        due("with four MAPS, NONE", x.spite(1), 2);
    }

    private void spiteFirst() {
        doc.says("of several the first (PLACE by PLACE; a shorter one ahead of a longer one that begins so):");
        way(Check.made(Lands.THREE), 0, 1, 2);
        way(Check.made(Lands.CHAIN), 0, 1);
        way(Check.made("n5;l3 4 1 1;l1 3 1 1;l1 4 1 1;"), 1, 3, 4);
        way(Check.made("n5;l3 2 1 1;"), 2, 3);
        way(Check.made("n4;l0 3 1 1;l0 2 1 1;l1 3 1 1;"), 0, 2);
        way(Check.made("n4;l0 3 1 1;l1 3 1 1;"), 0, 3);
        way(Check.made("n4;l2 0 1 1;l2 1 1 1;l0 3 1 1;"), 0, 2);
        doc.says("what it costs; how many WAYS there are for which it would be NONE; how many there are in all.");
        AskedMaps x = Check.made(Lands.THREE + "m0 1 2;");
        due("cost", x.spite(0), 1);
        due("NONE", x.spite(1), 2);
        due("in all", x.spite(2), 6);
        x = Check.made(Lands.THREE + "m0 1 2;m0 2 1;");
        due("all are NONE", x.spite(1), 6);
        due("in all", x.spite(2), 6);
        x = Check.made(Lands.THREE);
        due("none is NONE", x.spite(1), 0);
        x = new AskedMaps();
        due("no WAYS: NONE", x.spite(1), 0);
        due("no WAYS: in all", x.spite(2), 0);
    }

    // ---- ODDS, KNOT

    private void fraction(AskedMaps x, int by, int upper, int lower) {
        due("odds(" + by + ", 0)", x.odds(by, 0), upper);
        due("odds(" + by + ", 1)", x.odds(by, 1), lower);
    }

    private void odds() {
        doc.says("ODDS by x (0 .. 10):");
        AskedMaps x = Check.made(Lands.THREE + "m0 1 2;m0 2 1;");
        due("odds(-1, 0)", x.odds(-1, 0), BAD);
        fraction(x, 0, 0, 1);
        fraction(x, 1, 19, 100);
        fraction(x, 9, 99, 100);
        fraction(x, 10, 1, 1);
        due("odds(11, 0)", x.odds(11, 0), BAD);
        doc.says("each MAP is burnt by x of 10, for itself: that there is ASKING then: a fraction.");
        x = Check.made(Lands.THREE + "m0 1 2;m0 2 1;m0 1 2;m1 2 0;");
        fraction(x, 0, 0, 1);
        fraction(x, 1, 199, 10000);
        fraction(x, 5, 7, 16);
        fraction(x, 9, 9639, 10000);
        fraction(x, 10, 1, 1);
        Check.draft(x, 0, 1, 2);
        fraction(x, 1, 1, 100);
        x = Check.made(Lands.THREE + "m0 1 2;m0 2 1;m0 1 2;m1 0 2;");
        fraction(x, 1, 59, 5000);
        x = Check.made(Lands.THREE + "m0 1 2;m0 2 1;m1 0 2;");
        fraction(x, 2, 13, 125);
        fraction(Check.made(Lands.CHAIN + "m0 1;m1 2;m2 3;m3 4;"), 0, 1, 1);
        fraction(Check.made(Lands.CHAIN + "m0 1;m1 2;m2 3;m3 4;"), 3, 1, 1);
        fraction(new AskedMaps(), 0, 1, 1);
        fraction(new AskedMaps(), 10, 1, 1);
    }

    private void knot() {
        doc.says("KNOT of a PLACE: SPADES of LANES at it, each times its LENGTH, together.");
        AskedMaps x = Check.made("n5;l0 1 5 9;l2 0 5 9;l0 3 5 9;l4 0 5 9;");
        due("four LANES", x.knot(0), 180);
        due("one LANE", x.knot(4), 45);
        x.digs(3, 1);
        due("as it is NOW", x.knot(4), 9);
        due("three of six LANES", Check.made(Lands.SIX).knot(4), 3);
        due("no LANES", new AskedMaps().knot(1), 0);
        due("none at it", Check.made("n3;l0 1 5 9;").knot(2), 0);
    }

    // ---- promises

    private void promises15To17() {
        AskedMaps x = Check.made("n4;l0 1 1 1;l1 2 1 1;");
        doc.promise(15, "FAR (0: alike ones); NONE.");
        due("alike ones", x.far(3, 3), 0);
        due("no WAY", x.far(0, 3), NONE);
        due("a WAY", x.far(0, 2), 2);
        doc.promise(15, "BAD.");
        for (int wrong : new int[] {-1, 4, LOW, HIGH}) {
            due("far(" + wrong + ", 0)", x.far(wrong, 0), BAD);
            due("far(0, " + wrong + ")", x.far(0, wrong), BAD);
            due("far of alike ones, " + wrong, x.far(wrong, wrong), BAD);
        }
        doc.promise(16, "BY.");
        due("no WAY", x.by(0, 3), 0);
        due("one WAY", x.by(2, 0), 1);
        doc.promise(16, "BAD (alike ones, too).");
        for (int p = 0; p < 4; p++) {
            due("by(" + p + ", " + p + ")", x.by(p, p), BAD);
        }
        for (int wrong : new int[] {-1, 4, LOW, HIGH}) {
            due("by(" + wrong + ", 0)", x.by(wrong, 0), BAD);
            due("by(0, " + wrong + ")", x.by(0, wrong), BAD);
        }
        doc.promise(17, "KNOT.");
        due("knot(0)", x.knot(0), 1);
        due("knot(3)", x.knot(3), 0);
        doc.promise(17, "BAD.");
        for (int wrong : new int[] {-1, 4, LOW, HIGH}) {
            due("knot(" + wrong + ")", x.knot(wrong), BAD);
        }
    }

    private void promises18And19() {
        doc.promise(18, "ASKING: what it costs (l = -1), LENGTH of a LANE; NONE.");
        AskedMaps x = Check.made(Lands.THREE + "m0 1 2;m0 2;");
        due("asking(-1)", x.asking(-1), 1);
        due("asking(2), the last LANE", x.asking(2), 2);
        due("asking(-1) without LANES", new AskedMaps().asking(-1), 0);
        Check.draft(x, 1, 0, 2);
        due("asking(-1), NONE", x.asking(-1), NONE);
        due("asking(2), NONE", x.asking(2), NONE);
        doc.promise(18, "BAD.");
        for (int wrong : new int[] {-2, 3, LOW, HIGH}) {
            due("asking(" + wrong + "), ahead of NONE", x.asking(wrong), BAD);
        }
        due("asking(0) without LANES", new AskedMaps().asking(0), BAD);
        doc.promise(19, "CLASH, as bits.");
        due("clash() with THE DRAFT", x.clash(), 1);
        x.wipes();
        due("clash()", x.clash(), 0);
    }

    private void promise20() {
        doc.promise(20, "FIRE: which (what = 0), what it costs then (1); NONE.");
        AskedMaps x = Check.made(Lands.THREE + "m0 2;m0 1 2;");
        due("fire(0)", x.fire(0), 1);
        due("fire(1)", x.fire(1), 0);
        due("fire(0), NONE", new AskedMaps().fire(0), NONE);
        due("fire(1), NONE", new AskedMaps().fire(1), NONE);
        doc.promise(20, "BAD.");
        for (int wrong : new int[] {-1, 2, LOW, HIGH}) {
            due("fire(" + wrong + ")", x.fire(wrong), BAD);
            due("fire(" + wrong + ") without MAPS", new AskedMaps().fire(wrong), BAD);
        }
    }

    private void promises21And22() {
        doc.promise(21, "SPITE: what it costs (what = 0; NONE: no such WAY), how many are NONE (1), how many WAYS there are (2).");
        AskedMaps x = Check.made(Lands.THREE + "m0 1 2;m0 2 1;");
        due("spite(0), all are NONE", x.spite(0), NONE);
        due("spite(1)", x.spite(1), 6);
        due("spite(2)", x.spite(2), 6);
        due("spite(0), no WAYS", new AskedMaps().spite(0), NONE);
        doc.promise(22, "The k-th PLACE of the WAY of SPITE (NONE: not so many, no such WAY).");
        due("spiteful(0), no such WAY", x.spiteful(0), NONE);
        due("spiteful(0), no WAYS", new AskedMaps().spiteful(0), NONE);
        x = Check.made("n5;l0 1 5 9;l1 2 5 9;l2 3 5 9;l3 4 5 9;l0 4 1 9;");
        way(x, 0, 1, 2, 3, 4);
        due("its cost, 19 steps of 9", x.spite(0), 171);
        way(Check.made("l0 1 1 1;"), 0, 1);
        doc.promise(21, "BAD; STATE: THE DRAFT is not empty.");
        for (int wrong : new int[] {-1, 3, LOW, HIGH}) {
            due("spite(" + wrong + ")", x.spite(wrong), BAD);
        }
        x.names(0);
        for (int what = 0; what < 3; what++) {
            due("spite(" + what + ") with a DRAFT of one", x.spite(what), STATE);
        }
        for (int wrong : new int[] {-1, 3, LOW, HIGH}) {
            due("spite(" + wrong + ") with a DRAFT", x.spite(wrong), BAD);
        }
        x.undo();
        due("spite(2) without it", x.spite(2), 20);
        doc.promise(22, "BAD (0 .. 4); STATE: THE DRAFT is not empty.");
        for (int wrong : new int[] {-1, 5, LOW, HIGH}) {
            due("spiteful(" + wrong + ")", x.spiteful(wrong), BAD);
        }
        x.names(0);
        for (int k = 0; k < 5; k++) {
            due("spiteful(" + k + ") with a DRAFT of one", x.spiteful(k), STATE);
        }
        for (int wrong : new int[] {-1, 5, LOW, HIGH}) {
            due("spiteful(" + wrong + ") with a DRAFT", x.spiteful(wrong), BAD);
        }
    }

    private void promise23() {
        doc.promise(23, "ODDS: upper (what = 0), lower number (1), in least terms.");
        AskedMaps x = Check.made(Lands.THREE + "m0 1 2;m0 2 1;");
        fraction(x, 0, 0, 1);
        fraction(x, 2, 9, 25);
        fraction(x, 5, 3, 4);
        fraction(x, 10, 1, 1);
        doc.promise(23, "BAD.");
        for (int wrong : new int[] {-1, 11, LOW, HIGH}) {
            due("odds(" + wrong + ", 0)", x.odds(wrong, 0), BAD);
            due("odds(" + wrong + ", 1)", x.odds(wrong, 1), BAD);
        }
        for (int wrong : new int[] {-1, 2, LOW, HIGH}) {
            due("odds(0, " + wrong + ")", x.odds(0, wrong), BAD);
        }
    }
}
