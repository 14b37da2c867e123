/** The stranger of part 3 of the terms, and promises 24 to 27. */
final class StrangerEdges {
    private static final int BAD = AskedMaps.BAD, STATE = AskedMaps.STATE, FULL = AskedMaps.FULL;
    private static final int NONE = AskedMaps.NONE;
    private static final int LOW = Integer.MIN_VALUE, HIGH = Integer.MAX_VALUE;

    private final Document doc;

    StrangerEdges(Document doc) {
        this.doc = doc;
    }

    void run() {
        took();
        can();
        look();
        promises24And25();
        promises26And27();
    }

    private void due(String call, long got, long want) {
        doc.due(call, got, want);
    }

    private void took() {
        doc.says("TOOK (6 at most):");
        AskedMaps x = Check.made("l0 1 1 1;");
        for (int i = 1; i <= 6; i++) {
            due("the same again", x.took(0, 1), i);
        }
        due("a seventh", x.took(0, 1), FULL);
        due("a seventh, other", x.took(0, 0), FULL);
        due("it did not count", x.can(0), 1);
        due("TOOK", x.count(3), 6);
        doc.says("a stranger, who went from his lower end to his higher one by a shortest WAY, took a LANE (1), or did not (0).");
        x = Check.made(Lands.THREE);
        x.took(2, 0);
        due("did not: LANES 0, 1", x.can(2), 3);
        x.forget();
        x.took(2, 1);
        due("took: LANE 2 alone, as 0 1 2 is no shortest WAY", x.can(2), 4);
        due("one WAY", x.can(0), 1);
    }

    private void can() {
        doc.says("CAN: WAYS (from the lower end to the higher one) that are shortest NOW,");
        due("each WAY once", Check.made("l1 0 1 1;").can(0), 1);
        AskedMaps x = Check.made("n3;l0 1 1 1;l1 2 1 1;l0 2 2 1;");
        due("both of one LENGTH", x.can(0), 4);
        x.digs(2, 3);
        due("one is longer NOW", x.can(0), 3);
        x.undo();
        due("UNDONE", x.can(0), 4);
        due("no WAYS", new AskedMaps().can(0), 0);
        due("whatever MAPS there are", Check.made(Lands.THREE + "m0 1 2;").can(0), 3);
        doc.says("by which all that was TOOK is so: how many;");
        x.took(1, 1);
        due("by LANE 1", x.can(0), 2);
        x.took(0, 0);
        due("and not by LANE 0", x.can(0), 1);
        x.took(2, 1);
        due("and by LANE 2", x.can(0), 0);
        x.forget();
        x.took(1, 1);
        x.took(1, 0);
        due("both can't be", x.can(0), 0);
        x.forget();
        due("nothing TOOK", x.can(0), 4);
        doc.says("LANES in all of them (bits; NONE: there are none); in some.");
        due("in all of four", x.can(1), 0);
        due("in some of four", x.can(2), 7);
        x.took(1, 1);
        due("in all of two", x.can(1), 2);
        due("in some of two", x.can(2), 3);
        x.took(1, 0);
        due("in all of none", x.can(1), NONE);
        due("in some of none", x.can(2), 0);
        x = Check.made(Lands.SIX);
        x.took(5, 1);
        due("LANE 5 in all", x.can(1), 32);
        due("in some", x.can(2), 60);
    }

    private void look() {
        doc.says("LOOK: the LANE by which, whether he took it or not, the greater part of these is smallest,");
        AskedMaps x = Check.made("n4;l2 3 5 1;l0 1 1 1;l1 2 1 1;l0 3 5 1;");
        due("LANE 1: 3 of 7 by it, 2 by LANE 0", x.look(), 1);
        x.took(1, 1);
        due("one that all took tells nothing", x.look(), 2);
        x.forget();
        x.took(1, 0);
        due("LANE 0: 2 of 4 by it", x.look(), 0);
        x.took(0, 0);
        due("one that none took tells nothing", x.look(), 2);
        x = Check.made("n5;l0 1 1 1;l0 2 1 1;l0 3 1 1;l1 2 1 1;l1 3 1 1;l3 4 1 1;");
        for (int l = 0; l < 5; l++) {
            x.took(l, l == 2 ? 1 : 0);
        }
        due("0 3 and 0 3 4", x.can(0), 2);
        due("LANE 5", x.look(), 5);
        doc.says("of several the lowest;");
        due("as good ones", Check.made(Lands.RING).look(), 0);
        due("six as good ones", Check.made(Lands.SIX).look(), 0);
        x = Check.made(Lands.THREE);
        due("1 of 3 each", x.look(), 0);
        x.took(0, 0);
        due("LANES 1 and 2", x.look(), 1);
        doc.says("NONE (one can be at most, no LANES).");
        due("two can be", x.can(0), 2);
        x.took(1, 0);
        due("one can be", x.can(0), 1);
        due("look() at one", x.look(), NONE);
        x.took(1, 1);
        due("none can be", x.can(0), 0);
        due("look() at none", x.look(), NONE);
        due("no LANES", new AskedMaps().look(), NONE);
        due("one LANE", Check.made("l0 1 1 1;").look(), NONE);
        due("two LANES", Check.made("n3;l0 1 1 1;l1 2 1 1;").look(), 0);
        due("two LANES that do not meet", Check.made("n4;l0 1 1 1;l2 3 1 1;").look(), 0);
    }

    private void promises24And25() {
        doc.promise(24, "TOOK: how much there is.");
        AskedMaps x = Check.made(Lands.CHAIN);
        due("took(3, 1)", x.took(3, 1), 1);
        due("took(0, 0)", x.took(0, 0), 2);
        doc.promise(24, "BAD; FULL.");
        for (int round = 0; round < 2; round++) {
            for (int wrong : new int[] {-1, 4, LOW, HIGH}) {
                due("took(" + wrong + ", 1)", x.took(wrong, 1), BAD);
            }
            for (int wrong : new int[] {-1, 2, LOW, HIGH}) {
                due("took(0, " + wrong + ")", x.took(0, wrong), BAD);
            }
            for (int i = x.count(3); i < 6; i++) {
                x.took(0, 0);
            }
            due("a seventh", x.took(0, 0), FULL);
        }
        due("without LANES", new AskedMaps().took(0, 0), BAD);
        doc.promise(25, "Nothing TOOK: how much there was.");
        due("forget() of six", x.forget(), 6);
        due("forget() of nothing", x.forget(), 0);
        due("TOOK", x.count(3), 0);
        due("took(0, 1) again", x.took(0, 1), 1);
        due("what was forgotten counts no more", x.can(0), 4);
        due("it can't be UNDONE", x.undo(), STATE);
    }

    private void promises26And27() {
        doc.promise(26, "CAN: how many (what = 0), LANES in all (1; NONE), in some (2).");
        AskedMaps x = Check.made(Lands.CHAIN);
        due("can(0)", x.can(0), 10);
        due("can(1)", x.can(1), 0);
        due("can(2)", x.can(2), 15);
        x.took(0, 1);
        x.took(3, 1);
        due("can(0) of one", x.can(0), 1);
        due("can(1) of one", x.can(1), 15);
        x.took(1, 0);
        due("can(0) of none", x.can(0), 0);
        due("can(1) of none", x.can(1), NONE);
        due("can(2) of none", x.can(2), 0);
        doc.promise(26, "BAD.");
        for (int wrong : new int[] {-1, 3, LOW, HIGH}) {
            due("can(" + wrong + ")", x.can(wrong), BAD);
        }
        doc.promise(27, "LOOK; NONE.");
        due("look() at none", x.look(), NONE);
        x.forget();
        due("look(), 4 or 6 of 10 by each", x.look(), 0);
    }
}
