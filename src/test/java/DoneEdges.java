/** Part 2 of the terms, and promises 5 to 14: what is told of the land, done and undone. */
final class DoneEdges {
    private static final int BAD = AskedMaps.BAD, STATE = AskedMaps.STATE, NONE = AskedMaps.NONE;
    private static final int LOW = Integer.MIN_VALUE, HIGH = Integer.MAX_VALUE;

    private final Document doc;

    DoneEdges(Document doc) {
        this.doc = doc;
    }

    void run() {
        holds();
        named();
        asked();
        askedAndDug();
        dugAtMost();
        dig();
        burntAndWiped();
        undone();
        undoneAtMost();
        promise5();
        promises6And7();
        promise8();
        promises9And10();
        promises11To14();
    }

    private void due(String call, long got, long want) {
        doc.due(call, got, want);
    }

    private void holds() {
        doc.says("2 A MAP HOLDS, if its WAY is no longer than any other one between its ends (by LENGTHS as they are).");
        AskedMaps x = Check.made("n3;l0 1 1 1;l1 2 1 1;l0 2 2 1;m0 1 2;m2 1 0;m0 2;m2 0;");
        due("all are as short as one another", x.now(0), 15);
        x.digs(2, 1);
        due("two are longer by 1", x.now(0), 12);
        x.digs(2, 3);
        due("the other two are", x.now(0), 3);
        x.digs(0, 2);
        due("as short again, by other LENGTHS", x.now(0), 15);
        due("the only WAY", Check.made("l0 1 5 1;m1 0;").now(0), 1);
        x = Check.made("n4;l0 1 5 1;l1 2 1 1;l2 3 1 1;l3 0 3 1;m0 1;m0 3 2 1;");
        due("as long as one of three LANES", x.now(0), 3);
        x.digs(3, 2);
        due("longer than one of three LANES", x.now(0), 2);
    }

    private void named() {
        doc.says("THE DRAFT: PLACES named one behind another, empty at first.");
        due("PLACES at first", new AskedMaps().now(1), 0);
        AskedMaps x = Check.made(Lands.CHAIN);
        due("PLACES behind land()", x.now(1), 0);
        Check.draft(x, 3, 2, 1);
        due("the first", x.place(-1, 0), 3);
        due("the second", x.place(-1, 1), 2);
        due("the third", x.place(-1, 2), 1);
        due("no fourth", x.place(-1, 3), NONE);
        doc.says("NAMED: a PLACE comes to THE DRAFT, so that it is a WAY yet (of one PLACE, too).");
        due("one PLACE, at which there are no LANES", new AskedMaps().names(1), 1);
        x = Check.made(Lands.CHAIN);
        for (int p = 0; p < 5; p++) {
            due("names(" + p + ")", x.names(p), p + 1);
        }
        for (int p = 0; p < 5; p++) {
            due("a sixth, " + p, x.names(p), STATE);
        }
        x = Check.made(Lands.RING);
        Check.draft(x, 0);
        due("the same again", x.names(0), STATE);
        due("one to which there is no LANE", x.names(2), STATE);
        Check.draft(x, 1, 2, 3);
        due("the first again, to which there is a LANE", x.names(0), STATE);
        due("a LANE told from B to A", x.now(1), 4);
    }

    private void asked() {
        doc.says("ASKED, if THE DRAFT is a WAY of 2 PLACES or more,");
        AskedMaps x = Check.made(Lands.CHAIN);
        due("no PLACE", x.asks(), STATE);
        x.names(0);
        due("one PLACE", x.asks(), STATE);
        due("it stays", x.now(1), 1);
        x.names(1);
        due("two", x.asks(), 0);
        Check.draft(x, 4, 3, 2, 1, 0);
        due("five", x.asks(), 0);
        due("MAPS", x.count(2), 2);
        doc.says("there are fewer than 4 MAPS:");
        x = Check.made(Lands.CHAIN + "m0 1;m1 2;m2 3;");
        Check.draft(x, 3, 4);
        due("with three", x.asks(), 0);
        Check.draft(x, 3, 4);
        due("with four", x.asks(), STATE);
        due("MAPS", x.count(2), 4);
        due("THE DRAFT stays", x.now(1), 2);
        x.burns(0);
        due("with three again", x.asks(), 0);
        doc.says("THE DRAFT is the next MAP, and empty then.");
        due("the last MAP", x.place(3, 0), 3);
        due("its end", x.place(3, 1), 4);
        due("no more of it", x.place(3, 2), NONE);
        due("THE DRAFT", x.now(1), 0);
        due("none is left of it", x.place(-1, 0), NONE);
        due("another may be named", x.names(0), 1);
    }

    private void askedAndDug() {
        doc.says("LENGTHS become those of ASKING");
        AskedMaps x = Check.made("n3;l0 1 3 2;l1 2 3 2;l0 2 4 5;m0 2;");
        Check.draft(x, 0, 1, 2);
        int[] lengths = {x.asking(0), x.asking(1), x.asking(2)};
        due("what it costs", x.asks(), 4);
        int[] want = {1, 3, 4};
        for (int l = 0; l < 3; l++) {
            due("ASKING had " + l, lengths[l], want[l]);
            due("LENGTH of " + l, x.lane(l, 2), want[l]);
        }
        due("both hold", x.now(0), 3);
        doc.says("(DUG is more by what that costs;");
        due("DUG", x.now(2), 4);
        x.digs(0, 2);
        Check.draft(x, 2, 1, 0);
        due("what it costs", x.asks(), 2);
        due("DUG by all three", x.now(2), 8);
        Check.draft(x, 0, 1);
        due("what costs nothing", x.asks(), 0);
        due("DUG as it was", x.now(2), 8);
    }

    /** 512 calls can't dig so much: this is how the class counts on, where its answers are free. */
    private void dugAtMost() {
        doc.says("99999 at most),");
        AskedMaps x = Check.made("n3;l0 1 1 9;l1 2 1 9;l0 2 1 9;");
        for (int i = 0; i < 2777; i++) {
            x.digs(0, i % 2 == 0 ? 5 : 1);
        }
        due("DUG", x.now(2), 99972);
        x.digs(0, 2);
        due("LENGTH", x.lane(0, 2), 2);
        due("DUG just at it", x.now(2), 99999);
        x.undo();
        due("DUG, undone", x.now(2), 99972);
        x.digs(0, 1);
        due("DUG beyond it", x.now(2), 99999);
        due("digs() goes on", x.digs(0, 5), 1);
        due("DUG stays at it", x.now(2), 99999);
        Check.draft(x, 0, 1, 2);
        due("asks() goes on", x.asks() > 0 ? 1 : 0, 1);
        due("DUG stays at it", x.now(2), 99999);
        due("rate(5, 0)", x.rate(5, 0), 99999 + x.lane(0, 2));
    }

    private void dig() {
        doc.says("DIG: a LANE gets another LENGTH, whatever MAPS hold then (DUG is more likewise).");
        AskedMaps x = Check.made(Lands.RING + "m0 1;m1 2;");
        due("digs(0, 5)", x.digs(0, 5), 1);
        due("MAP 0 holds no more", x.now(0), 2);
        due("MAPS stay", x.count(2), 2);
        due("the others' LENGTHS stay", x.lane(1, 2), 1);
        due("DUG", x.now(2), 8);
        due("digs(0, 1)", x.digs(0, 1), 5);
        due("MAP 0 holds again", x.now(0), 3);
        due("DUG by both", x.now(2), 16);
        due("digs(3, 2), the last LANE", x.digs(3, 2), 1);
        due("DUG by three", x.now(2), 21);
    }

    private void burntAndWiped() {
        doc.says("BURNT: a MAP is none any more, later ones have a number less.");
        int[][] left = {{1, 2, 3}, {0, 2, 3}, {0, 1, 3}, {0, 1, 2}};
        for (int m = 0; m < 4; m++) {
            AskedMaps x = Check.made(Lands.CHAIN + "m0 1 2 3 4;m1 2 3;m2 3;m3 2 1 0;");
            due("burns(" + m + ")", x.burns(m), 3);
            int[] sizes = {5, 3, 2, 4};
            for (int i = 0; i < 3; i++) {
                due("burns(" + m + "): first of " + i, x.place(i, 0), left[m][i]);
                due("burns(" + m + "): PLACES of " + i, x.map(i, 0), sizes[left[m][i]]);
            }
            due("burns(" + m + "): none behind them", x.map(3, 0), BAD);
            due("burns(" + m + "): MAPS that hold", x.now(0), 7);
        }
        AskedMaps x = Check.made(Lands.RING + "m0 1;");
        Check.draft(x, 2, 3);
        x.digs(0, 3);
        x.burns(0);
        due("the last one: MAPS", x.count(2), 0);
        due("LENGTHS stay", x.lane(0, 2), 3);
        due("DUG stays", x.now(2), 4);
        due("THE DRAFT stays", x.place(-1, 1), 3);
        doc.says("WIPED: THE DRAFT is empty.");
        due("wipes()", x.wipes(), 2);
        due("PLACES", x.now(1), 0);
        due("the first", x.place(-1, 0), NONE);
        due("DUG stays", x.now(2), 4);
    }

    private void undone() {
        doc.says("UNDONE: the latest names(), asks(), digs(), burns(), wipes() that was not refused");
        AskedMaps x = Check.made(Lands.RING + "m0 1;");
        Check.draft(x, 0, 3, 2, 1);
        x.asks();
        x.digs(1, 5);
        x.burns(0);
        x.names(2);
        x.wipes();
        due("what may be", x.now(3), 9);
        x.names(4);
        x.asks();
        x.digs(1, 5);
        x.burns(4);
        x.wipes();
        due("what is refused does not count", x.now(3), 9);
        x.type(110);
        x.clear();
        x.took(0, 1);
        x.forget();
        x.keep(0);
        x.rate(0, 0);
        x.asking(-1);
        due("nor do other calls", x.now(3), 9);
        due("wipes()", x.undo(), 8);
        due("THE DRAFT", x.place(-1, 0), 2);
        due("names()", x.undo(), 7);
        due("THE DRAFT", x.now(1), 0);
        due("burns()", x.undo(), 6);
        due("MAPS", x.count(2), 2);
        due("MAP 0", x.place(0, 1), 1);
        due("digs()", x.undo(), 5);
        due("LENGTH", x.lane(1, 2), 1);
        due("DUG", x.now(2), 4);
        due("asks()", x.undo(), 4);
        due("LENGTH", x.lane(0, 2), 1);
        due("DUG", x.now(2), 0);
        due("MAPS", x.count(2), 1);
        due("THE DRAFT", x.now(1), 4);
        due("TRACE is not", x.trace(), 1);
        due("IMAGES are not", x.back(0), 1);
    }

    private void undoneAtMost() {
        doc.says("(10 are known, older ones are lost).");
        AskedMaps x = Check.made("l0 1 1 1;");
        for (int i = 1; i <= 12; i++) {
            x.digs(0, 1 + i % 5);
            due("what may be UNDONE behind " + i, x.now(3), Math.min(i, 10));
        }
        for (int i = 11; i >= 2; i--) {
            due("undo() to " + i, x.undo(), i - 2);
            due("LENGTH behind " + i, x.lane(0, 2), 1 + i % 5);
        }
        due("undo() of what is lost", x.undo(), STATE);
        due("LENGTH as it was", x.lane(0, 2), 3);
        x = Check.made("l0 1 1 1;");
        for (int i = 1; i <= 10; i++) {
            x.digs(0, 1 + i % 5);
        }
        for (int left = 9; left >= 0; left--) {
            due("undo() of ten", x.undo(), left);
        }
        due("none of ten is lost", x.lane(0, 2), 1);
        due("undo() of an eleventh", x.undo(), STATE);
        x.digs(0, 2);
        due("undo() is not itself undone", x.now(3), 1);
    }

    // ---- promises

    private void promise5() {
        doc.promise(5, "Of a LANE: 0, 1 its PLACES as told, 2 LENGTH, 3 SPADES, 4 how many MAPS go by it.");
        AskedMaps x = Check.made("n3;l2 0 5 9;l0 1 1 1;m0 2;m1 0 2;m2 0;m2 0 1;");
        int[] first = {2, 0, 5, 9, 4};
        int[] second = {0, 1, 1, 1, 2};
        for (int what = 0; what < 5; what++) {
            due("lane(0, " + what + ")", x.lane(0, what), first[what]);
            due("lane(1, " + what + ")", x.lane(1, what), second[what]);
        }
        Check.draft(x, 0, 1);
        due("THE DRAFT does not count", x.lane(1, 4), 2);
        due("no MAPS", Check.made("l0 1 1 1;").lane(0, 4), 0);
        doc.promise(5, "BAD.");
        for (int wrong : new int[] {-1, 2, LOW, HIGH}) {
            due("lane(" + wrong + ", 0)", x.lane(wrong, 0), BAD);
        }
        for (int wrong : new int[] {-1, 5, LOW, HIGH}) {
            due("lane(0, " + wrong + ")", x.lane(0, wrong), BAD);
        }
        due("no LANES", new AskedMaps().lane(0, 0), BAD);
    }

    private void promises6And7() {
        doc.promise(6, "Of a MAP: 0 how many PLACES, 1 LENGTH, 2 whether it HOLDS (1, 0).");
        AskedMaps x = Check.made("n5;l0 1 5 1;l1 2 5 1;l2 3 5 1;l3 4 5 1;l0 4 1 1;m0 1 2 3 4;m4 0;");
        int[][] want = {{5, 20, 0}, {2, 1, 1}};
        for (int m = 0; m < 2; m++) {
            for (int what = 0; what < 3; what++) {
                due("map(" + m + ", " + what + ")", x.map(m, what), want[m][what]);
            }
        }
        doc.promise(6, "BAD.");
        for (int wrong : new int[] {-1, 2, 4, LOW, HIGH}) {
            due("map(" + wrong + ", 0)", x.map(wrong, 0), BAD);
        }
        for (int wrong : new int[] {-1, 3, LOW, HIGH}) {
            due("map(0, " + wrong + ")", x.map(0, wrong), BAD);
        }
        due("no MAPS", new AskedMaps().map(0, 0), BAD);
        doc.promise(7, "The k-th PLACE of a MAP (m = -1: of THE DRAFT); NONE (not so many).");
        due("the first", x.place(0, 0), 0);
        due("the fifth", x.place(0, 4), 4);
        due("the second of two", x.place(1, 1), 0);
        due("a third of two", x.place(1, 2), NONE);
        due("a fifth of two", x.place(1, 4), NONE);
        due("an empty DRAFT", x.place(-1, 0), NONE);
        Check.draft(x, 3);
        due("a DRAFT of one", x.place(-1, 0), 3);
        due("its second", x.place(-1, 1), NONE);
        doc.promise(7, "BAD.");
        for (int wrong : new int[] {-2, 2, 4, LOW, HIGH}) {
            due("place(" + wrong + ", 0)", x.place(wrong, 0), BAD);
        }
        for (int wrong : new int[] {-1, 5, LOW, HIGH}) {
            for (int m = -1; m < 2; m++) {
                due("place(" + m + ", " + wrong + ")", x.place(m, wrong), BAD);
            }
        }
        due("no MAPS", new AskedMaps().place(0, 0), BAD);
    }

    private void promise8() {
        doc.promise(8, "0 MAPS that HOLD (bits), 1 PLACES of THE DRAFT (how many), 2 DUG, 3 how many may be UNDONE.");
        AskedMaps x = Check.made(Lands.CHAIN + "m0 1;m1 2;m2 3;m3 4;");
        for (int what = 1; what < 4; what++) {
            due("now(" + what + ") at first", x.now(what), 0);
        }
        due("all four hold", x.now(0), 15);
        Check.draft(x, 0, 1, 2, 3, 4);
        due("a DRAFT of five", x.now(1), 5);
        due("five may be UNDONE", x.now(3), 5);
        x.digs(0, 2);
        due("DUG 1", x.now(2), 1);
        due("no MAPS", new AskedMaps().now(0), 0);
        x = Check.made(Lands.THREE + "m0 1 2;m0 2;m2 1 0;m2 0;");
        due("the second and the fourth", x.now(0), 10);
        doc.promise(8, "BAD.");
        for (int wrong : new int[] {-1, 4, LOW, HIGH}) {
            due("now(" + wrong + ")", x.now(wrong), BAD);
        }
    }

    private void promises9And10() {
        doc.promise(9, "NAMED: how many PLACES THE DRAFT has.");
        AskedMaps x = Check.made(Lands.CHAIN);
        due("names(4)", x.names(4), 1);
        due("names(3)", x.names(3), 2);
        doc.promise(9, "BAD; STATE: it would be no WAY.");
        due("the last again", x.names(3), STATE);
        due("no LANE", x.names(0), STATE);
        for (int wrong : new int[] {-1, 5, LOW, HIGH}) {
            due("names(" + wrong + ")", x.names(wrong), BAD);
            due("names(" + wrong + ") at first", new AskedMaps().names(wrong), BAD);
        }
        Check.draft(x, 2, 1, 0);
        due("a sixth that is no PLACE", x.names(5), BAD);
        due("a sixth", x.names(4), STATE);
        due("THE DRAFT has five", x.now(1), 5);
        doc.promise(10, "ASKED: what it costs.");
        due("asks() of what holds", x.asks(), 0);
        x = Check.made("n3;l0 1 1 9;l1 2 5 9;l0 2 1 9;");
        Check.draft(x, 0, 1, 2);
        due("asks() for five steps of 9", x.asks(), 45);
        doc.promise(10, "STATE: THE DRAFT is no WAY of 2, there are 4 MAPS, no ASKING.");
        due("no DRAFT", x.asks(), STATE);
        x.names(0);
        due("a DRAFT of one", x.asks(), STATE);
        Check.draft(x, 2, 1);
        due("no ASKING", x.asks(), STATE);
        due("LENGTHS stay", x.lane(2, 2), 2);
        due("MAPS stay", x.count(2), 1);
        x = Check.made(Lands.CHAIN + "m0 1;m0 1;m0 1;m0 1;");
        Check.draft(x, 0, 1);
        due("4 MAPS", x.asks(), STATE);
        due("THE DRAFT stays", x.now(1), 2);
    }

    private void promises11To14() {
        doc.promise(11, "DIG: LENGTH till then.");
        AskedMaps x = Check.made("l0 1 1 9;m0 1;");
        due("digs(0, 5)", x.digs(0, 5), 1);
        due("digs(0, 1)", x.digs(0, 1), 5);
        doc.promise(11, "BAD; STATE: it is so.");
        due("digs(0, 1)", x.digs(0, 1), STATE);
        for (int wrong : new int[] {0, 6, -1, LOW, HIGH}) {
            due("digs(0, " + wrong + ")", x.digs(0, wrong), BAD);
        }
        for (int wrong : new int[] {-1, 1, LOW, HIGH}) {
            due("digs(" + wrong + ", 2)", x.digs(wrong, 2), BAD);
        }
        due("DUG by what was done", x.now(2), 72);
        doc.promise(12, "BURNT: how many MAPS are left.");
        due("burns(0)", x.burns(0), 0);
        doc.promise(12, "BAD.");
        for (int wrong : new int[] {0, -1, 4, LOW, HIGH}) {
            due("burns(" + wrong + ") of none", x.burns(wrong), BAD);
        }
        x = Check.made(Lands.CHAIN + "m0 1;m1 2;");
        due("burns(2) of two", x.burns(2), BAD);
        due("burns(1) of two", x.burns(1), 1);
        doc.promise(13, "WIPED: how many PLACES THE DRAFT had.");
        x.names(4);
        due("one", x.wipes(), 1);
        Check.draft(x, 0, 1, 2, 3, 4);
        due("five", x.wipes(), 5);
        doc.promise(13, "STATE: none.");
        due("none", x.wipes(), STATE);
        due("none at first", new AskedMaps().wipes(), STATE);
        doc.promise(14, "UNDONE: how many more may be.");
        due("what may be", x.now(3), 9);
        for (int left = 8; left >= 0; left--) {
            due("undo()", x.undo(), left);
        }
        doc.promise(14, "STATE: none.");
        due("undo()", x.undo(), STATE);
        due("MAPS as told", x.count(2), 2);
        due("undo() at first", new AskedMaps().undo(), STATE);
    }
}
