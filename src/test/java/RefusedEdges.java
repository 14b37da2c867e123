import java.util.function.Supplier;
import java.util.function.ToLongFunction;

/** What is refused, and what only asks, changes nothing: two objects are compared by their Probe. */
final class RefusedEdges {
    private static final int BAD = AskedMaps.BAD, STATE = AskedMaps.STATE, FULL = AskedMaps.FULL;
    private static final int NONE = AskedMaps.NONE, NO = AskedMaps.NO;
    private static final int[] FAR_OFF = {Integer.MIN_VALUE, Integer.MAX_VALUE};

    private final Document doc;
    private Supplier<AskedMaps> from;
    private String before = "";

    RefusedEdges(Document doc) {
        this.doc = doc;
    }

    void run() {
        doc.says("Refused, and nothing changes, the first of these: BAD (a number is not as told, or there is no such thing), STATE (as told), FULL.");
        start(RefusedEdges::busy);
        badOfLand();
        badOfDone();
        badOfAsking();
        badOfOthers();
        stateAndFull();
        start(AskedMaps::new);
        ofNew();
        ofOthers();
        doc.says("3 (As things are NOW; nothing is changed.)");
        start(RefusedEdges::busy);
        onlyAsked();
        start(RefusedEdges::without);
        onlyAsked();
        asThingsAreNow();
        ratesAndImages();
        manyCalls();
    }

    /** Four MAPS, a DRAFT, six TOOK, something DUG and to be UNDONE, one IMAGE, a text. */
    private static AskedMaps busy() {
        AskedMaps x = Check.made(Lands.RING + "m0 1;m1 2;m2 3;m3 0;");
        x.digs(1, 2);
        x.keep(0);
        Check.draft(x, 0, 1, 2);
        for (int i = 0; i < 6; i++) {
            x.took(i % 2, i % 2);
        }
        x.rate(5, 1);
        Check.write(x, "n3;");
        return x;
    }

    /** The same without a DRAFT, so that SPITE can be asked, and with MAPS that clash. */
    private static AskedMaps without() {
        AskedMaps x = Check.made(Lands.THREE + "m0 1 2;m0 1;m0 2 1;");
        x.digs(1, 2);
        x.keep(1);
        x.burns(1);
        x.took(0, 1);
        Check.write(x, "n4;");
        return x;
    }

    private void start(Supplier<AskedMaps> make) {
        from = make;
        before = Probe.of(make.get());
    }

    private void quiet(String name, ToLongFunction<AskedMaps> call, long want) {
        AskedMaps x = from.get();
        doc.due(name, call.applyAsLong(x), want);
        doc.same("what is behind " + name, Probe.of(x), before);
    }

    private static int[] around(int low, int high) {
        return new int[] {low - 1, high + 1, FAR_OFF[0], FAR_OFF[1]};
    }

    private void badOfLand() {
        for (int n : around(0, 255)) {
            quiet("type(" + n + ")", x -> x.type(n), BAD);
        }
        for (int n : around(0, 3)) {
            quiet("lane(" + n + ", 0)", x -> x.lane(n, 0), BAD);
            quiet("map(" + n + ", 0)", x -> x.map(n, 0), BAD);
            quiet("now(" + n + ")", x -> x.now(n), BAD);
        }
        for (int n : around(0, 4)) {
            quiet("lane(0, " + n + ")", x -> x.lane(0, n), BAD);
            quiet("place(0, " + n + ")", x -> x.place(0, n), BAD);
            quiet("place(-1, " + n + ")", x -> x.place(-1, n), BAD);
        }
        for (int n : around(0, 2)) {
            quiet("map(0, " + n + ")", x -> x.map(0, n), BAD);
        }
        for (int n : around(-1, 3)) {
            quiet("place(" + n + ", 0)", x -> x.place(n, 0), BAD);
        }
    }

    private void badOfDone() {
        for (int n : around(0, 3)) {
            quiet("names(" + n + ")", x -> x.names(n), BAD);
            quiet("digs(" + n + ", 3)", x -> x.digs(n, 3), BAD);
            quiet("burns(" + n + ")", x -> x.burns(n), BAD);
        }
        for (int n : around(1, 5)) {
            quiet("digs(0, " + n + ")", x -> x.digs(0, n), BAD);
        }
    }

    private void badOfAsking() {
        for (int n : around(0, 3)) {
            quiet("far(" + n + ", 0)", x -> x.far(n, 0), BAD);
            quiet("far(0, " + n + ")", x -> x.far(0, n), BAD);
            quiet("by(" + n + ", 0)", x -> x.by(n, 0), BAD);
            quiet("by(0, " + n + ")", x -> x.by(0, n), BAD);
            quiet("knot(" + n + ")", x -> x.knot(n), BAD);
        }
        quiet("by(2, 2)", x -> x.by(2, 2), BAD);
        for (int n : around(-1, 3)) {
            quiet("asking(" + n + ")", x -> x.asking(n), BAD);
        }
        for (int n : around(0, 1)) {
            quiet("fire(" + n + ")", x -> x.fire(n), BAD);
            quiet("odds(5, " + n + ")", x -> x.odds(5, n), BAD);
        }
        for (int n : around(0, 10)) {
            quiet("odds(" + n + ", 0)", x -> x.odds(n, 0), BAD);
        }
        for (int n : around(0, 2)) {
            quiet("spite(" + n + "), BAD ahead of STATE", x -> x.spite(n), BAD);
        }
        for (int n : around(0, 4)) {
            quiet("spiteful(" + n + "), BAD ahead of STATE", x -> x.spiteful(n), BAD);
        }
    }

    private void badOfOthers() {
        for (int n : around(0, 3)) {
            quiet("took(" + n + ", 0), BAD ahead of FULL", x -> x.took(n, 0), BAD);
            quiet("rate(0, " + n + ")", x -> x.rate(0, n), NO);
        }
        for (int n : around(0, 1)) {
            quiet("took(0, " + n + "), BAD ahead of FULL", x -> x.took(0, n), BAD);
            quiet("keep(" + n + ")", x -> x.keep(n), BAD);
            quiet("back(" + n + ")", x -> x.back(n), BAD);
        }
        for (int n : around(0, 2)) {
            quiet("can(" + n + ")", x -> x.can(n), BAD);
        }
        for (int n : around(0, 5)) {
            quiet("rate(" + n + ", 0)", x -> x.rate(n, 0), NO);
        }
        for (int n : around(0, 4)) {
            quiet("count(" + n + ")", x -> x.count(n), BAD);
        }
    }

    private void stateAndFull() {
        for (int p = 0; p < 3; p++) {
            int was = p;
            quiet("names(" + p + "), named", x -> x.names(was), STATE);
        }
        quiet("asks() with 4 MAPS", AskedMaps::asks, STATE);
        quiet("digs(0, 1)", x -> x.digs(0, 1), STATE);
        quiet("digs(1, 2)", x -> x.digs(1, 2), STATE);
        for (int what = 0; what < 3; what++) {
            int of = what;
            quiet("spite(" + what + ")", x -> x.spite(of), STATE);
        }
        for (int k = 0; k < 5; k++) {
            int of = k;
            quiet("spiteful(" + k + ")", x -> x.spiteful(of), STATE);
        }
        quiet("back(1)", x -> x.back(1), STATE);
        quiet("took(0, 1)", x -> x.took(0, 1), FULL);
        quiet("took(3, 0)", x -> x.took(3, 0), FULL);
    }

    private void ofNew() {
        quiet("names(2) at first", x -> x.names(2), BAD);
        quiet("asks() at first", AskedMaps::asks, STATE);
        quiet("digs(0, 1) at first", x -> x.digs(0, 1), BAD);
        quiet("burns(0) at first", x -> x.burns(0), BAD);
        quiet("wipes() at first", AskedMaps::wipes, STATE);
        quiet("undo() at first", AskedMaps::undo, STATE);
        quiet("took(0, 0) at first", x -> x.took(0, 0), BAD);
        quiet("rate(0, 0) at first", x -> x.rate(0, 0), NO);
        quiet("back(0) at first", x -> x.back(0), STATE);
        quiet("back(1) at first", x -> x.back(1), STATE);
        quiet("back(2), BAD ahead of STATE", x -> x.back(2), BAD);
        quiet("back(-1), BAD ahead of STATE", x -> x.back(-1), BAD);
    }

    private static AskedMaps drafted(String text, int... places) {
        AskedMaps x = Check.made(text);
        x.keep(1);
        Check.draft(x, places);
        return x;
    }

    private static AskedMaps written() {
        AskedMaps x = busy();
        Check.write(x, " ".repeat(117));
        return x;
    }

    private void ofOthers() {
        start(() -> drafted(Lands.RING + "m0 1;", 1));
        quiet("asks() of one PLACE", AskedMaps::asks, STATE);
        quiet("names(3), no LANE", x -> x.names(3), STATE);
        start(() -> drafted(Lands.THREE + "m0 1 2;", 0, 2, 1));
        quiet("asks(), no ASKING", AskedMaps::asks, STATE);
        start(() -> drafted(Lands.CHAIN, 0, 1, 2, 3, 4));
        quiet("names(0), a sixth", x -> x.names(0), STATE);
        quiet("names(5), BAD ahead of STATE", x -> x.names(5), BAD);
        start(() -> drafted(Lands.CHAIN));
        quiet("wipes() of none", AskedMaps::wipes, STATE);
        quiet("undo() of none", AskedMaps::undo, STATE);
        start(RefusedEdges::written);
        quiet("type(110), a 121st", x -> x.type(110), FULL);
        quiet("type(256), BAD ahead of FULL", x -> x.type(256), BAD);
        quiet("type(-1), BAD ahead of FULL", x -> x.type(-1), BAD);
    }

    /** Every call that only asks, with all that it may be asked; what it answers is tested elsewhere. */
    private static long askAll(AskedMaps x) {
        for (int a = 0; a < 4; a++) {
            for (int b = 0; b < 4; b++) {
                x.far(a, b);
                x.by(a, b);
            }
            x.lane(a, 4);
            x.map(a, 2);
            x.place(a, 0);
            x.now(a);
            x.knot(a);
            x.spiteful(a);
            x.can(a);
            x.count(a);
            x.fire(a);
            x.spite(a);
            x.odds(a * 3, a % 2);
        }
        for (int l = -1; l < 4; l++) {
            x.asking(l);
        }
        x.clash();
        x.look();
        return x.trace();
    }

    private void onlyAsked() {
        quiet("all that asks", RefusedEdges::askAll, from.get().trace());
    }

    private void asking(String when, AskedMaps x, int cost, int spite, int impossible, int second) {
        doc.due("asking(-1) " + when, x.asking(-1), cost);
        doc.due("spite(0) " + when, x.spite(0), spite);
        doc.due("spite(1) " + when, x.spite(1), impossible);
        doc.due("spiteful(1) " + when, x.spiteful(1), second);
    }

    private void asThingsAreNow() {
        AskedMaps x = Check.made("n3;l0 1 1 1;l1 2 1 1;l0 2 1 3;");
        asking("at first", x, 0, 3, 0, 1);
        x.keep(0);
        x.digs(2, 2);
        asking("behind digs()", x, 0, 2, 0, 2);
        x.undo();
        asking("behind undo()", x, 0, 3, 0, 1);
        Check.draft(x, 0, 1, 2);
        doc.due("asking(-1) of THE DRAFT", x.asking(-1), 3);
        x.asks();
        asking("behind asks()", x, 0, 0, 2, 1);
        x.digs(2, 1);
        asking("behind digs()", x, 3, 3, 2, 1);
        x.burns(0);
        asking("behind burns()", x, 0, 3, 0, 1);
        x.undo();
        asking("behind undo()", x, 3, 3, 2, 1);
        x.back(0);
        asking("behind back()", x, 0, 3, 0, 1);
        Check.land(x, "n3;l0 1 1 1;l1 2 1 1;l0 2 1 3;m0 1 2;m0 2 1;");
        asking("behind land()", x, NONE, NONE, 6, NONE);
        x.clear();
        x.land();
        asking("behind land() of nothing", x, 0, NONE, 0, NONE);
    }

    private void ratesAndImages() {
        doc.promise(28, "RATE.");
        String still = Probe.withoutTrace(busy());
        for (int kind = 0; kind < 6; kind++) {
            AskedMaps x = busy();
            x.rate(kind, 3);
            doc.same("all but THE TRACE behind rate(" + kind + ", 3)", Probe.withoutTrace(x), still);
        }
        doc.promise(29, "An IMAGE is kept: how many MAPS.");
        AskedMaps x = busy();
        AskedMaps y = busy();
        x.keep(1);
        x.keep(1);
        y.keep(1);
        doc.same("the same IMAGE again", Probe.of(x), Probe.of(y));
    }

    private void manyCalls() {
        doc.says("An object is used for at most 512 calls after it has been made; what later calls answer is free.");
        AskedMaps x = new AskedMaps();
        Check.write(x, Lands.SIX);
        doc.due("land(), the 58th call", x.land(), 7);
        for (int call = 59; call < 512; call += 3) {
            doc.due("digs()", x.digs(0, 3 - x.lane(0, 2)), x.lane(0, 2) == 1 ? 2 : 1);
        }
        doc.due("the 512th call", x.spite(2), 33);
    }
}
