/**
 * What calls tell of an object, as one text: how it is, how it is behind each undo() and each
 * back(), and what its text reads as. The object is used up by it.
 */
final class Probe {
    private final AskedMaps x;
    private final StringBuilder told = new StringBuilder();

    private Probe(AskedMaps of) {
        x = of;
    }

    static String of(AskedMaps x) {
        return of(x, true);
    }

    /** The same without THE TRACE, which rate() alone may change. */
    static String withoutTrace(AskedMaps x) {
        return of(x, false);
    }

    private static String of(AskedMaps x, boolean trace) {
        Probe p = new Probe(x);
        if (trace) {
            p.add("trace", x.trace());
        }
        p.look();
        for (int left = x.now(3); left > 0; left--) {
            p.add("undo", x.undo());
            p.look();
        }
        for (int image = 0; image < 2; image++) {
            p.add("back", x.back(image));
            p.look();
        }
        p.add("land", x.land());
        p.look();
        return p.told.toString();
    }

    private void add(String what, long is) {
        told.append(' ').append(what).append(' ').append(is);
    }

    private void look() {
        for (int what = 0; what < 5; what++) {
            add("count", x.count(what));
        }
        for (int what = 0; what < 4; what++) {
            add("now", x.now(what));
        }
        for (int l = 0; l < x.count(1); l++) {
            add("length", x.lane(l, 2));
            add("spades", x.lane(l, 3));
        }
        for (int m = -1; m < x.count(2); m++) {
            for (int k = 0; k < 5 && x.place(m, k) != AskedMaps.NONE; k++) {
                add("place", x.place(m, k));
            }
        }
        add("can", x.can(0));
        add("can", x.can(2));
        told.append('\n');
    }
}
