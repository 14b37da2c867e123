/** Part 4 of the terms, and promises 28 to 32: kinds, images, counts, what is read anew. */
final class KindEdges {
    private static final int BAD = AskedMaps.BAD, STATE = AskedMaps.STATE, NONE = AskedMaps.NONE;
    private static final int NO = AskedMaps.NO;
    private static final int LOW = Integer.MIN_VALUE, HIGH = Integer.MAX_VALUE;

    private final Document doc;

    KindEdges(Document doc) {
        this.doc = doc;
    }

    void run() {
        kinds();
        bodies();
        images();
        imagesKeepNow();
        anew();
        promise28();
        promises29And30();
        promises31And32();
    }

    private void due(String call, long got, long want) {
        doc.due(call, got, want);
    }

    /** LANE 1 is 4 long with 7 SPADES, three MAPS go by it, and 3 is DUG. */
    private static AskedMaps land() {
        AskedMaps x = Check.made("n3;l0 1 2 3;l1 2 4 7;m0 1 2;m1 2;m2 1;");
        x.digs(0, 3);
        return x;
    }

    private void kind(String quote, int kind, int want, long trace) {
        doc.says(quote);
        AskedMaps x = land();
        due("rate(" + kind + ", 1)", x.rate(kind, 1), want);
        due("trace()", x.trace(), trace);
        due("rate(" + kind + ", 1) again", x.rate(kind, 1), want);
        due("trace() of both", x.trace(), 2 * trace);
    }

    private void kinds() {
        doc.says("4 KINDS of LANES are over one another: 0 LANE; 1 BROOK, 2 CART, 5 SEA (each under LANE); 3 PARLOUR (under BROOK); 4 HOME (under CART).");
        AskedMaps x = land();
        due("rate(-1, 0)", x.rate(-1, 0), NO);
        due("rate(0, 0)", x.rate(0, 0), 3);
        due("rate(5, 0)", x.rate(5, 0), 6);
        due("rate(6, 0)", x.rate(6, 0), NO);
        doc.says("RATE of one as if of a KIND");
        int[] want = {4, 11, 1, 22, 2, 7};
        for (int kind = 0; kind < 6; kind++) {
            due("the same LANE as of " + kind, x.rate(kind, 1), want[kind]);
        }
        doc.says("(numbers in brackets are added to THE TRACE, 0 at first,");
        due("at first", new AskedMaps().trace(), 0);
        x = land();
        due("behind other calls", x.trace(), 0);
        doc.says("as often as rate() asks that body: each once;");
        long[] adds = {1, 11, 101, 1011, 10101, 100001};
        long sum = 0;
        for (int kind = 0; kind < 6; kind++) {
            x.rate(kind, 0);
            sum += adds[kind];
            due("trace() behind rate(" + kind + ", 0)", x.trace(), sum);
        }
        doc.says("\"up\" is what the KIND above does):");
        due("PARLOUR asks BROOK, BROOK asks LANE", x.rate(3, 0), 2 * x.rate(1, 0));
        due("HOME asks CART, CART asks LANE", x.rate(4, 1), x.rate(2, 1) + 1);
    }

    private void bodies() {
        kind("LANE its LENGTH (1).", 0, 4, 1);
        kind("BROOK up, and its SPADES (10).", 1, 11, 11);
        kind("CART up less how many MAPS go by it (100).", 2, 1, 101);
        AskedMaps x = Check.made("l0 1 1 1;m0 1;m1 0;m0 1;m0 1;");
        due("below 0", x.rate(2, 0), -3);
        Check.draft(x, 0, 1);
        due("THE DRAFT does not count", x.rate(2, 0), -3);
        kind("PARLOUR twice up (1000).", 3, 22, 1011);
        due("the greatest", Check.made("l0 1 5 9;").rate(3, 0), 28);
        kind("HOME up, and its number (10000).", 4, 2, 10101);
        due("number 0", x.rate(4, 0), -3);
        due("number 5", Check.made(Lands.SIX).rate(4, 5), 6);
        kind("SEA up, and DUG (100000).", 5, 7, 100001);
        due("nothing DUG", Check.made("l0 1 5 9;").rate(5, 0), 5);
    }

    private void images() {
        doc.says("IMAGES 0, 1 keep NOW (LENGTHS, MAPS, THE DRAFT, DUG); nothing else");
        AskedMaps x = Check.made(Lands.RING + "m0 1;m2 3;");
        due("keep(-1)", x.keep(-1), BAD);
        due("keep(0)", x.keep(0), 2);
        Check.draft(x, 0, 3, 2, 1);
        x.digs(2, 2);
        x.burns(0);
        due("keep(1)", x.keep(1), 1);
        due("keep(2)", x.keep(2), BAD);
        x.took(0, 1);
        x.rate(0, 0);
        x.type(110);
        due("back(0)", x.back(0), 2);
        due("LENGTHS", x.lane(2, 2), 1);
        due("MAPS", x.place(0, 1), 1);
        due("THE DRAFT", x.now(1), 0);
        due("DUG", x.now(2), 0);
        due("TOOK is not kept", x.count(3), 1);
        due("THE TEXT is not", x.count(4), 1);
        due("THE TRACE is not", x.trace(), 1);
        due("back(1)", x.back(1), 1);
        due("LENGTHS", x.lane(2, 2), 2);
        due("MAPS", x.place(0, 1), 3);
        due("THE DRAFT", x.place(-1, 3), 1);
        due("DUG", x.now(2), 4);
        due("TOOK stays", x.count(3), 1);
    }

    private void imagesKeepNow() {
        doc.says("(nothing can be UNDONE behind back()).");
        AskedMaps x = Check.made(Lands.RING);
        x.names(0);
        x.keep(0);
        x.names(1);
        x.keep(1);
        due("what may be UNDONE behind keep()", x.now(3), 2);
        x.back(0);
        due("what may be UNDONE", x.now(3), 0);
        due("undo()", x.undo(), STATE);
        due("THE DRAFT", x.now(1), 1);
        x.names(3);
        due("what is done behind it may be", x.now(3), 1);
        due("undo()", x.undo(), 0);
        due("to where back() was", x.now(1), 1);
        due("no further", x.undo(), STATE);
        x.back(0);
        due("the same IMAGE again", x.now(1), 1);
        x.back(1);
        due("the other one", x.now(1), 2);
        x.wipes();
        due("a refused back() leaves it", x.back(2), BAD);
        due("what may be UNDONE then", x.now(3), 1);
    }

    private void anew() {
        doc.says("(Read anew: as told, THE DRAFT is empty, nothing TOOK, IMAGES are gone.)");
        AskedMaps x = Check.made(Lands.RING + "m0 1;");
        Check.draft(x, 0, 3, 2, 1);
        x.asks();
        Check.draft(x, 0, 1);
        x.took(0, 1);
        x.keep(0);
        x.keep(1);
        due("land()", Check.land(x, Lands.RING + "m1 2;m2 3;"), 7);
        due("LENGTH as told", x.lane(0, 2), 1);
        due("MAPS as told", x.count(2), 2);
        due("MAP 0 as told", x.place(0, 0), 1);
        due("THE DRAFT", x.now(1), 0);
        due("its first", x.place(-1, 0), NONE);
        due("nothing is DUG", x.now(2), 0);
        due("nothing may be UNDONE", x.undo(), STATE);
        due("nothing TOOK", x.count(3), 0);
        due("what can be had", x.can(0), 8);
        due("IMAGE 0", x.back(0), STATE);
        due("IMAGE 1", x.back(1), STATE);
        due("asking(-1)", x.asking(-1), 0);
        due("an IMAGE kept then", x.keep(1), 2);
        due("it is there", x.back(1), 2);
        due("the other one is not", x.back(0), STATE);
        due("land() of nothing", x.land(), 0);
        due("nothing told: LANES", x.count(1), 0);
        due("nothing told: WAYS", x.spite(2), 0);
        due("nothing told: IMAGE 1", x.back(1), STATE);
    }

    // ---- promises

    private void promise28() {
        doc.says("The constants: `NO = -1000000`: What none is, where a number may be below 0.");
        due("NO", AskedMaps.NO, -1000000);
        AskedMaps x = Check.made("l0 1 1 1;m0 1;m0 1;");
        due("BAD would be a RATE", x.rate(2, 0), -1);
        due("NO is none", x.rate(2, 1), NO);
        doc.promise(28, "RATE.");
        due("rate(1, 0)", x.rate(1, 0), 2);
        doc.promise(28, "NO: BAD.");
        long trace = x.trace();
        for (int wrong : new int[] {-1, 6, LOW, HIGH}) {
            due("rate(" + wrong + ", 0)", x.rate(wrong, 0), NO);
        }
        for (int wrong : new int[] {-1, 1, LOW, HIGH}) {
            due("rate(0, " + wrong + ")", x.rate(0, wrong), NO);
        }
        due("without LANES", new AskedMaps().rate(0, 0), NO);
        due("THE TRACE stays", x.trace(), trace);
    }

    private void promises29And30() {
        doc.promise(29, "An IMAGE is kept: how many MAPS.");
        AskedMaps x = Check.made(Lands.CHAIN + "m0 1;m1 2;m2 3;m3 4;");
        due("four", x.keep(0), 4);
        due("none", new AskedMaps().keep(1), 0);
        doc.promise(29, "BAD.");
        for (int wrong : new int[] {-1, 2, LOW, HIGH}) {
            due("keep(" + wrong + ")", x.keep(wrong), BAD);
        }
        doc.promise(30, "All of that becomes as an IMAGE has it: how many MAPS.");
        x.burns(0);
        x.burns(0);
        due("back(0)", x.back(0), 4);
        due("MAPS", x.count(2), 4);
        due("MAP 0", x.place(0, 0), 0);
        x.burns(3);
        due("the IMAGE kept anew", x.keep(0), 3);
        x.burns(0);
        due("back(0) to it", x.back(0), 3);
        due("its last MAP", x.place(2, 0), 2);
        doc.promise(30, "BAD; STATE: none was kept.");
        due("back(1)", x.back(1), STATE);
        for (int wrong : new int[] {-1, 2, LOW, HIGH}) {
            due("back(" + wrong + ")", x.back(wrong), BAD);
            due("back(" + wrong + ") at first", new AskedMaps().back(wrong), BAD);
        }
        due("back(0) at first", new AskedMaps().back(0), STATE);
        due("back(1) at first", new AskedMaps().back(1), STATE);
    }

    private void promises31And32() {
        doc.promise(31, "0 PLACES, 1 LANES, 2 MAPS, 3 TOOK, 4 letters of THE TEXT.");
        AskedMaps x = Check.made(Lands.SIX + "m0 1;m0 1;m0 1;m0 1;");
        for (int i = 0; i < 7; i++) {
            x.took(0, 0);
        }
        for (int i = 0; i < 121; i++) {
            x.type(32);
        }
        int[] most = {5, 6, 4, 6, 120};
        int[] least = {2, 0, 0, 0, 0};
        for (int what = 0; what < 5; what++) {
            due("count(" + what + "), the most", x.count(what), most[what]);
            due("count(" + what + "), the least", new AskedMaps().count(what), least[what]);
        }
        doc.promise(31, "BAD.");
        for (int wrong : new int[] {-1, 5, LOW, HIGH}) {
            due("count(" + wrong + ")", x.count(wrong), BAD);
        }
        doc.promise(32, "THE TRACE.");
        due("at first", x.trace(), 0);
        for (int i = 0; i < 200; i++) {
            x.rate(5, 0);
        }
        due("trace()", x.trace(), 20000200L);
        due("trace() again", x.trace(), 20000200L);
    }
}
