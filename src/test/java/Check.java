/** Counts answers that are not as due, and tells them. */
final class Check {
    private int asked = 0;
    private int wrong = 0;

    void due(String call, long got, long want) {
        asked++;
        if (got != want) {
            wrong++;
            System.out.println(call + " answered " + got + ", due is " + want);
        }
    }

    int wrong() {
        return wrong;
    }

    /** Ends the program, with 1 if an answer was wrong. */
    void close(String name) {
        System.out.println(name + ": " + asked + " answers, " + wrong + " wrong");
        System.exit(wrong == 0 ? 0 : 1);
    }

    static void write(AskedMaps x, String text) {
        for (int i = 0; i < text.length(); i++) {
            x.type(text.charAt(i));
        }
    }

    static int land(AskedMaps x, String text) {
        x.clear();
        write(x, text);
        return x.land();
    }

    static AskedMaps made(String text) {
        AskedMaps x = new AskedMaps();
        int items = land(x, text);
        if (items < 0) {
            throw new IllegalStateException("the test's own text is at fault: " + text + " " + items);
        }
        return x;
    }

    static void draft(AskedMaps x, int... places) {
        for (int p : places) {
            x.names(p);
        }
    }
}
