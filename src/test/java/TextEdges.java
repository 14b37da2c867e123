/** Part 1 of the terms, and promises 1 to 4: what a text may tell, and where it is at fault. */
final class TextEdges {
    private static final int BAD = AskedMaps.BAD, STATE = AskedMaps.STATE, FULL = AskedMaps.FULL;
    private static final int NONE = AskedMaps.NONE;

    private final Document doc;

    TextEdges(Document doc) {
        this.doc = doc;
    }

    void run() {
        places();
        lanes();
        lengthsAndSpades();
        ways();
        maps();
        letters();
        itemsOfEachKind();
        mapItems();
        tokens();
        faultsOfOrder();
        faultsOfNumbers();
        endsTooEarly();
        promises1To3();
        promise4();
    }

    private void due(String call, long got, long want) {
        doc.due(call, got, want);
    }

    private AskedMaps reads(String text, int items) {
        AskedMaps x = new AskedMaps();
        due("land() of '" + text + "'", Check.land(x, text), items);
        return x;
    }

    private void fault(String text, int at) {
        AskedMaps x = new AskedMaps();
        due("land() of '" + text + "'", Check.land(x, text), -10 - at);
        due("letters behind it", x.count(4), text.length());
    }

    // ---- what there is

    private void places() {
        doc.says("1 PLACES 0 .. as many as are told less 1 (2 .. 5; 2 at first).");
        fault("n0;", 1);
        fault("n1;", 1);
        for (int many = 2; many <= 5; many++) {
            AskedMaps x = reads("n" + many + ";", 1);
            due("PLACES", x.count(0), many);
            due("the last PLACE", x.names(many - 1), 1);
            due("one beyond it", x.knot(many), BAD);
            due("PLACE 0", x.knot(0), 0);
        }
        fault("n6;", 1);
        due("PLACES at first", new AskedMaps().count(0), 2);
        due("the last PLACE at first", new AskedMaps().names(1), 1);
        due("one beyond it at first", new AskedMaps().names(2), BAD);
        due("PLACES where none are told", reads("l0 1 1 1;", 1).count(0), 2);
    }

    private void lanes() {
        doc.says("LANES 0 .. (6 at most)");
        AskedMaps x = reads(Lands.SIX, 7);
        due("LANES", x.count(1), 6);
        due("the last LANE", x.lane(5, 0), 4);
        due("one beyond it", x.lane(6, 0), BAD);
        fault(Lands.SIX + "l1 2 1 1;", 57);
        due("LANES where none are told", reads("n5;", 1).count(1), 0);
        doc.says("between two unlike PLACES (one lane between two at most):");
        fault("l0 0 1 1;", 3);
        fault("l1 1 1 1;", 3);
        fault("l0 1 1 1;l0 1 1 1;", 12);
        fault("l0 1 1 1;l1 0 1 1;", 12);
        fault("l1 0 1 1;l0 1 1 1;", 12);
        fault("n3;l0 1 1 1;l1 2 1 1;l2 0 1 1;l2 1 1 1;", 33);
        reads("n3;l0 1 1 1;l1 2 1 1;l2 0 1 1;", 4);
    }

    private void lengthsAndSpades() {
        doc.says("LENGTH (1 .. 5),");
        fault("l0 1 0 1;", 5);
        due("the least LENGTH", reads("l0 1 1 1;", 1).lane(0, 2), 1);
        due("the greatest LENGTH", reads("l0 1 5 1;", 1).lane(0, 2), 5);
        fault("l0 1 6 1;", 5);
        fault("l0 1 99 1;", 5);
        doc.says("SPADES (1 .. 9: what it costs to make it 1 longer or shorter).");
        fault("l0 1 1 0;", 7);
        due("the fewest SPADES", reads("l0 1 1 1;", 1).lane(0, 3), 1);
        AskedMaps x = reads("l0 1 3 9;", 1);
        due("the most SPADES", x.lane(0, 3), 9);
        fault("l0 1 1 10;", 7);
        x.digs(0, 4);
        due("DUG for 1 longer", x.now(2), 9);
        x.digs(0, 3);
        due("DUG for 1 shorter, too", x.now(2), 18);
    }

    private void ways() {
        doc.says("A WAY: a row of 2 .. 5 unlike PLACES, between each and the next a LANE;");
        AskedMaps x = reads(Lands.CHAIN + "m0 1;m0 1 2 3 4;", 7);
        due("a WAY of 2", x.map(0, 0), 2);
        due("a WAY of 5", x.map(1, 0), 5);
        fault(Lands.CHAIN + "m0;", 41);
        fault("n3;l0 1 1 1;l1 2 1 1;l0 2 1 1;m0 1 2 0;", 37);
        fault("n3;l0 1 1 1;m0 2;", 15);
        due("WAYS of the chain", x.spite(2), 10);
        due("WAYS of no LANES", new AskedMaps().spite(2), 0);
        due("WAYS of the ring", reads(Lands.RING, 5).spite(2), 12);
        due("WAYS of most", reads(Lands.SIX, 7).spite(2), 33);
        doc.says("its LENGTH is that of its LANES together.");
        x = reads("n5;l0 1 5 1;l1 2 5 1;l2 3 5 1;l3 4 5 1;m4 3 2 1 0;m2 3;", 7);
        due("LENGTH of four LANES of 5", x.map(0, 1), 20);
        due("LENGTH of one", x.map(1, 1), 5);
        due("LENGTH of 1", reads("l0 1 1 1;m0 1;", 2).map(0, 1), 1);
    }

    private void maps() {
        doc.says("MAPS 0 .. (4 at most): a WAY each.");
        AskedMaps x = reads("l0 1 1 1;m0 1;m0 1;m1 0;m0 1;", 5);
        due("MAPS", x.count(2), 4);
        due("the last MAP", x.place(3, 1), 1);
        due("one beyond it", x.map(4, 0), BAD);
        fault("l0 1 1 1;m0 1;m0 1;m1 0;m0 1;m0 1;", 29);
        due("MAPS where none are told", reads("l0 1 1 1;", 1).count(2), 0);
        x = reads("l0 1 1 1;m0 1;m0 1;m1 0;", 4);
        Check.draft(x, 0, 1);
        due("asks() for the fourth", x.asks(), 0);
        Check.draft(x, 0, 1);
        due("asks() for a fifth", x.asks(), STATE);
    }

    // ---- the text

    private void letters() {
        doc.says("They are a text (120 letters at most), told letter by letter,");
        String full = Lands.CHAIN + "m0 1 2 3 4;m4 3 2 1 0;m1 2 3;m2 3;";
        AskedMaps x = reads(full + " ".repeat(120 - full.length()), 9);
        due("MAPS of 120 letters", x.count(2), 4);
        x = reads(" ".repeat(120 - full.length()) + full, 9);
        due("MAPS of the last of 120 letters", x.count(2), 4);
        String lost = " ".repeat(117) + "n3;";
        due("PLACES by letters 118 to 120", reads(lost, 1).count(0), 3);
        x = new AskedMaps();
        Check.write(x, " " + lost);
        due("a 121st letter is lost, and the text ends too early", x.land(), -130);
        doc.says("blanks (32) between TOKENS;");
        x = reads("  n  3  ;  l  0  1  4  7  ;  m  0  1  ;  ", 3);
        due("SPADES", x.lane(0, 3), 7);
        reads("n3;l0 1 4 7;m0 1;", 3);
        reads("   ", 0);
        fault("n3;l0 1 47;", 8);
        fault("n1 0;", 1);
        for (int other : new int[] {0, 9, 10, 11, 12, 13, 31, 33, 95, 133, 160, 255}) {
            fault("n" + (char) other + "3;", 1);
        }
        doc.says("ITEMS, each ended by ; :");
        reads("", 0);
        reads("n2;", 1);
        reads("n2;l0 1 1 1;", 2);
        fault("n2 l0 1 1 1;", 3);
        fault("l0 1 1 1 m0 1;", 9);
        fault("l0 1 1 1;m0 1 m0 1;", 14);
        fault("n2;;", 3);
        fault("l0 1 1 1;;", 9);
        fault("l0 1 1 1;m0 1;;", 14);
        fault(";", 0);
    }

    private void itemsOfEachKind() {
        doc.says("n N (PLACES; the first of all, if it is told) ;");
        due("PLACES", reads("n5;", 1).count(0), 5);
        due("not told", reads("l0 1 1 1;m0 1;", 2).count(0), 2);
        fault("n;", 1);
        fault("n2 3;", 3);
        fault("nn2;", 1);
        fault("n2;n2;", 3);
        fault("n2;n3;", 3);
        doc.says("l A B L S (a LANE) ;");
        AskedMaps x = reads("n5;l4 2 3 8;", 2);
        int[] told = {4, 2, 3, 8};
        for (int what = 0; what < 4; what++) {
            due("lane(0, " + what + ")", x.lane(0, what), told[what]);
        }
        fault("l;", 1);
        fault("l0;", 2);
        fault("l0 1;", 4);
        fault("l0 1 1;", 6);
        fault("l0 1 1 1 1;", 9);
        fault("l0 1 1 1 n3;", 9);
        fault("ll0 1 1 1;", 1);
    }

    private void mapItems() {
        doc.says("m and 2 to 5 PLACES (a MAP: they must be a WAY by LANES told ahead;");
        fault(Lands.CHAIN + "m;", 40);
        fault(Lands.CHAIN + "m1;", 41);
        reads(Lands.CHAIN + "m1 2;", 6);
        reads(Lands.CHAIN + "m1 2 3;", 6);
        reads(Lands.CHAIN + "m1 2 3 4;", 6);
        reads(Lands.CHAIN + "m4 3 2 1 0;", 6);
        fault("m0 1;l0 1 1 1;", 3);
        fault("n3;l0 1 1 1;m0 1 2;l1 2 1 1;", 17);
        reads("n3;l0 1 1 1;m0 1;l1 2 1 1;m0 1 2;", 5);
        doc.says("FAULT at the first that can't be the next;");
        fault(Lands.CHAIN + "m5 4;", 40);
        fault(Lands.CHAIN + "m0 2 4;", 42);
        fault(Lands.CHAIN + "m0 0;", 42);
        fault(Lands.CHAIN + "m0 1 3 0;", 44);
        fault(Lands.CHAIN + "m0 1 0;", 44);
        fault(Lands.CHAIN + "m0 1 2 4;", 46);
        fault(Lands.CHAIN + "m0 1 2 1;", 46);
        fault(Lands.CHAIN + "m0 1 2 3 2;", 48);
        fault(Lands.CHAIN + "m0 1 2 3 5;", 48);
        doc.says("whether it is a shortest one does not matter).");
        AskedMaps x = reads("n3;l0 1 5 1;l1 2 5 1;l0 2 1 1;m0 1 2;m0 2;", 6);
        due("the MAP does not hold", x.map(0, 2), 0);
        due("the other one does", x.map(1, 2), 1);
        due("MAPS that clash may be told", reads(Lands.THREE + "m0 1 2;m0 2 1;", 6).clash(), 3);
    }

    // ---- faults

    private void tokens() {
        doc.says("TOKENS are the letters n, l, m, NUMBERS and ; .");
        reads("n2;l0 1 1 1;m0 1;", 3);
        fault("n", 1);
        fault("l", 1);
        fault("m", 1);
        for (int digit = '0'; digit <= '9'; digit++) {
            fault("" + (char) digit, 0);
        }
        doc.says("FAULT: the place of the first letter of the first TOKEN that can't stand there");
        fault("   12;", 3);
        fault("n   10;", 4);
        fault("n9x", 1);
        fault("n9;n1;", 1);
        fault("n3;l0 9 9 9;", 6);
        fault("x n2;", 0);
        doc.says("of any other letter,");
        for (int letter = 0; letter < 256; letter++) {
            if (" nlm;0123456789".indexOf(letter) < 0) {
                fault("n3;" + (char) letter, 3);
                fault("l0 1 1 1" + (char) letter + ";", 8);
            }
        }
        fault("N2;", 0);
        fault("n-2;", 1);
        fault("n+2;", 1);
    }

    private void faultsOfOrder() {
        doc.says("(n behind another ITEM,");
        fault("n3;n3;", 3);
        fault("l0 1 1 1;n2;", 9);
        fault("l0 1 1 1;m0 1;  n2;", 16);
        doc.says("a seventh l,");
        fault(Lands.SIX + "l", 57);
        fault(Lands.SIX + " l1 2 1 1;", 58);
        fault(Lands.SIX + "m0 1;l1 2 1 1;", 62);
        doc.says("a fifth m,");
        fault("l0 1 1 1;m0 1;m0 1;m0 1;m0 1;m", 29);
        fault("l0 1 1 1;m0 1;m0 1;m0 1;m0 1;  m0 1;", 31);
        doc.says("B that is A or has a LANE to A,");
        fault("l0   0 1 1;", 5);
        fault("n5;l4 4 1 1;", 6);
        fault("n3;l0 1 1 1;l0 1 1 1;", 15);
        fault("n3;l0 1 1 1;l1   0 1 1;", 17);
        fault("n3;l0 1 1 1;l0 2 1 1;l1 0 1 1;", 24);
        fault("l0 1 1 1;l0 0 1 1;", 12);
        doc.says("a sixth PLACE of a MAP,");
        fault(Lands.CHAIN + "m0 1 2 3 4 0;", 50);
        fault(Lands.CHAIN + "m0 1 2 3 4 3;", 50);
        fault(Lands.CHAIN + "m0 1 2 3 4   5", 52);
    }

    private void faultsOfNumbers() {
        doc.says("a NUMBER beyond what it may be, too);");
        fault("n1;", 1);
        fault("n6;", 1);
        fault("l2 0 1 1;", 1);
        fault("l0 2 1 1;", 3);
        fault("n5;l5 0 1 1;", 4);
        fault("n5;l0 5 1 1;", 6);
        fault("l0 1 0 1;", 5);
        fault("l0 1 6 1;", 5);
        fault("l0 1 1 0;", 7);
        fault("l0 1 1 10;", 7);
        fault("l0 1 1 1;m2 0;", 10);
        fault("l0 1 1 1;m0 2;", 12);
        doc.says("a NUMBER above 99");
        fault("n99;", 1);
        fault("n100;", 1);
        fault("n  258;", 3);
        fault("n65538;", 1);
        fault("n4294967298;", 1);
        fault("n18446744073709551618;", 1);
        fault("l0 1 1 " + "1".repeat(100) + ";", 7);
        fault("100", 0);
        doc.says("or with a 0 ahead of others, that TOKEN's;");
        fault("n02;", 1);
        fault("n002;", 1);
        fault("l00 1 1 1;", 1);
        fault("l0 01 1 1;", 3);
        fault("l0 1 01 1;", 5);
        fault("l0 1 1 01;", 7);
        fault("l0 1 1 1;m00 1;", 10);
        fault("l0 1 1 1;m0 01;", 12);
        reads("l0 1 1 1;m0 1;", 2);
    }

    private void endsTooEarly() {
        doc.says("the text's length, if it ends too early.");
        String text = "n3;l0 1 2 3;m0 1;";
        int items = 0;
        for (int size = 0; size <= text.length(); size++) {
            String part = text.substring(0, size);
            if (size == 0 || part.endsWith(";")) {
                items += size == 0 ? 0 : 1;
                reads(part, items);
                reads(part + "  ", items);
            } else {
                fault(part, size);
                fault(part + "  ", size + 2);
            }
        }
        fault("n" + " ".repeat(119), 120);
        fault(" ".repeat(119) + "n", 120);
        fault(Lands.CHAIN + "m0 1 2 3 4", 49);
    }

    // ---- promises

    private void promises1To3() {
        doc.promise(1, "As told; 2 PLACES, no LANES.");
        AskedMaps x = new AskedMaps();
        int[] counts = {2, 0, 0, 0, 0};
        for (int what = 0; what < counts.length; what++) {
            due("count(" + what + ")", x.count(what), counts[what]);
        }
        for (int what = 0; what < 4; what++) {
            due("now(" + what + ")", x.now(what), 0);
        }
        due("trace()", x.trace(), 0);
        due("undo()", x.undo(), STATE);
        due("back(0)", x.back(0), STATE);
        due("back(1)", x.back(1), STATE);
        due("place(-1, 0)", x.place(-1, 0), NONE);
        doc.promise(2, "A letter (0 .. 255) comes to THE TEXT: how many it has.");
        due("type(0)", x.type(0), 1);
        due("type(255)", x.type(255), 2);
        doc.promise(2, "BAD; FULL.");
        for (int wrong : new int[] {-1, 256, Integer.MIN_VALUE, Integer.MAX_VALUE}) {
            due("type(" + wrong + ")", x.type(wrong), BAD);
        }
        for (int size = 3; size <= 120; size++) {
            due("type(32)", x.type(32), size);
        }
        due("the 121st", x.type(32), FULL);
        due("the 121st, 256", x.type(256), BAD);
        due("the 121st, -1", x.type(-1), BAD);
        doc.promise(3, "THE TEXT is empty: how many letters it had.");
        due("clear() of a full text", x.clear(), 120);
        due("clear() of an empty text", x.clear(), 0);
        due("letters", x.count(4), 0);
        due("type(110)", x.type(110), 1);
        due("clear() of one letter", x.clear(), 1);
        due("clear() at first", new AskedMaps().clear(), 0);
    }

    private void promise4() {
        doc.promise(4, "THE TEXT tells all anew, and is empty then: how many ITEMS.");
        AskedMaps x = Check.made(Lands.RING + "m0 1 2;");
        due("letters behind it", x.count(4), 0);
        due("land() of an empty text", x.land(), 0);
        due("PLACES as at first", x.count(0), 2);
        due("no LANES", x.count(1), 0);
        due("no MAPS", x.count(2), 0);
        due("most ITEMS", Check.land(x, Lands.SIX + "m0 1;m1 0;m0 2;m2 0;"), 11);
        doc.promise(4, "-10 less FAULT: nothing changes.");
        due("FAULT 0", Check.land(x, "x"), -10);
        due("FAULT 120", Check.land(x, "n" + " ".repeat(119)), -130);
        due("the text stays", x.count(4), 120);
        due("LANES stay", x.count(1), 6);
        due("the same FAULT again", x.land(), -130);
        x.clear();
        String faulty = "n3;l0 1 5 1;m0 1;l0 0";
        doc.same("all else", Probe.of(withFault(faulty)), Probe.of(withText(faulty)));
    }

    private static AskedMaps withText(String text) {
        AskedMaps x = Check.made(Lands.RING + "m0 1 2;");
        Check.draft(x, 0, 1);
        x.digs(0, 4);
        x.took(1, 1);
        x.keep(1);
        x.rate(5, 0);
        Check.write(x, text);
        return x;
    }

    private static AskedMaps withFault(String text) {
        AskedMaps x = withText(text);
        x.land();
        return x;
    }
}
