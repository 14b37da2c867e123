import java.util.ArrayList;
import java.util.Collections;
import java.util.List;
import java.util.Random;

/** Long runs of calls by chance (always the same chance) on AskedMaps and on the Oracle. */
public final class OracleTest {
    private static final int RUNS = 250;
    private static final int CALLS = 512;
    private static final int[] WILD = {-1, -2, 5, 6, 7, 11, 120, 255, 256, 1000, Integer.MIN_VALUE, Integer.MAX_VALUE};

    private final Check check = new Check();
    private final Random chance;
    private final AskedMaps real = new AskedMaps();
    private final Oracle due = new Oracle();
    private final String name;
    private int calls = 0;

    private OracleTest(int seed) {
        chance = new Random(seed);
        name = "run " + seed + " call ";
    }

    public static void main(String[] args) {
        int wrong = 0;
        for (int seed = 1; seed <= RUNS; seed++) {
            OracleTest run = new OracleTest(seed);
            run.go();
            wrong += run.check.wrong();
        }
        System.out.println("OracleTest: " + RUNS + " runs of " + CALLS + " calls, " + wrong + " wrong");
        System.exit(wrong == 0 ? 0 : 1);
    }

    private void go() {
        while (calls < CALLS && check.wrong() < 5) {
            if (calls == 0 && chance.nextInt(10) > 0 || chance.nextInt(150) == 0) {
                tell(chance.nextInt(4) == 0 ? spoilt(text()) : text());
            } else if (chance.nextInt(6) == 0) {
                nameSome();
            } else {
                call(chance.nextInt(31));
            }
        }
    }

    private String text() {
        int places = chance.nextInt(3) == 0 ? 2 + chance.nextInt(4) : 4 + chance.nextInt(2);
        StringBuilder s = new StringBuilder(places == 2 && chance.nextBoolean() ? "" : "n" + places + ";");
        List<int[]> pairs = new ArrayList<>();
        for (int a = 0; a < places; a++) {
            for (int b = a + 1; b < places; b++) {
                pairs.add(chance.nextBoolean() ? new int[] {a, b} : new int[] {b, a});
            }
        }
        Collections.shuffle(pairs, chance);
        int lanes = Math.min(pairs.size(), chance.nextInt(3) == 0 ? chance.nextInt(7) : 6);
        pairs = pairs.subList(0, lanes);
        for (int[] p : pairs) {
            s.append("l" + p[0] + " " + p[1] + " " + (1 + chance.nextInt(5)) + " " + (1 + chance.nextInt(9)) + ";");
        }
        for (int m = chance.nextInt(5); m > 0 && lanes > 0; m--) {
            s.append("m" + way(pairs, places) + (chance.nextInt(5) == 0 ? " " : "") + ";");
        }
        return s.toString();
    }

    private String way(List<int[]> pairs, int places) {
        List<Integer> row = new ArrayList<>(List.of(pairs.get(0)[chance.nextInt(2)]));
        for (int tries = 0; tries < 30 && (row.size() < 2 || chance.nextInt(12) > 0); tries++) {
            int next = chance.nextInt(places);
            int last = row.get(row.size() - 1);
            boolean joined = pairs.stream().anyMatch(p -> p[0] == last && p[1] == next || p[1] == last && p[0] == next);
            if (joined && !row.contains(next)) {
                row.add(next);
            }
        }
        StringBuilder s = new StringBuilder();
        row.forEach(p -> s.append(s.length() == 0 ? "" : " ").append(p));
        return s.toString();
    }

    private String spoilt(String text) {
        StringBuilder s = new StringBuilder(text);
        String letters = "nlm;0123456789 x\t" + (char) 233;
        for (int i = chance.nextInt(3); i >= 0; i--) {
            int at = chance.nextInt(s.length() + 1);
            char other = letters.charAt(chance.nextInt(letters.length()));
            int how = chance.nextInt(4);
            if (how == 0 || at == s.length()) {
                s.insert(at, other);
            } else if (how == 1) {
                s.setCharAt(at, other);
            } else if (how == 2) {
                s.deleteCharAt(at);
            } else {
                s.setLength(at);
            }
        }
        return s.toString();
    }

    private void tell(String text) {
        if (chance.nextInt(4) > 0) {
            same("clear()", real.clear(), due.clear());
        }
        for (char letter : text.toCharArray()) {
            same("type(" + (int) letter + ")", real.type(letter), due.type(letter));
        }
        same("land() of " + text, real.land(), due.land());
    }

    private void nameSome() {
        for (int i = chance.nextInt(8); i >= 0; i--) {
            int p = chance.nextInt(5);
            same("names(" + p + ")", real.names(p), due.names(p));
        }
    }

    /** A number from 0 on below this one as a rule, and now and then any other one. */
    private int some(int below) {
        return chance.nextInt(12) == 0 ? WILD[chance.nextInt(WILD.length)] : chance.nextInt(below);
    }

    private void call(int which) {
        int a;
        int b;
        switch (which) {
            case 0: a = some(256); if (chance.nextInt(4) == 0) { same("type(" + a + ")", real.type(a), due.type(a)); } break;
            case 1: a = some(6); b = some(5); same("lane(" + a + ", " + b + ")", real.lane(a, b), due.lane(a, b)); break;
            case 2: a = some(4); b = some(3); same("map(" + a + ", " + b + ")", real.map(a, b), due.map(a, b)); break;
            case 3: a = some(5) - 1; b = some(5); same("place(" + a + ", " + b + ")", real.place(a, b), due.place(a, b)); break;
            case 4: a = some(4); same("now(" + a + ")", real.now(a), due.now(a)); break;
            case 5: a = some(5); same("names(" + a + ")", real.names(a), due.names(a)); break;
            case 6: case 7: same("asks()", real.asks(), due.asks()); break;
            case 8: a = some(6); b = some(6); same("digs(" + a + ", " + b + ")", real.digs(a, b), due.digs(a, b)); break;
            case 9: a = some(9); same("burns(" + a + ")", real.burns(a), due.burns(a)); break;
            case 10: same("wipes()", real.wipes(), due.wipes()); break;
            case 11: same("undo()", real.undo(), due.undo()); break;
            case 12: a = some(5); b = some(5); same("far(" + a + ", " + b + ")", real.far(a, b), due.far(a, b)); break;
            case 13: a = some(5); b = some(5); same("by(" + a + ", " + b + ")", real.by(a, b), due.by(a, b)); break;
            case 14: a = some(5); same("knot(" + a + ")", real.knot(a), due.knot(a)); break;
            case 15: case 16: a = some(7) - 1; same("asking(" + a + ")", real.asking(a), due.asking(a)); break;
            case 17: same("clash()", real.clash(), due.clash()); break;
            case 18: a = some(2); same("fire(" + a + ")", real.fire(a), due.fire(a)); break;
            case 19: a = some(3); same("spite(" + a + ")", real.spite(a), due.spite(a)); break;
            case 20: a = some(5); same("spiteful(" + a + ")", real.spiteful(a), due.spiteful(a)); break;
            case 21: a = some(11); b = some(2); same("odds(" + a + ", " + b + ")", real.odds(a, b), due.odds(a, b)); break;
            case 22: a = some(6); b = some(2); same("took(" + a + ", " + b + ")", real.took(a, b), due.took(a, b)); break;
            case 23: if (chance.nextInt(2) == 0) { same("forget()", real.forget(), due.forget()); } break;
            case 24: a = some(3); same("can(" + a + ")", real.can(a), due.can(a)); break;
            case 25: same("look()", real.look(), due.look()); break;
            case 26: a = some(6); b = some(6); same("rate(" + a + ", " + b + ")", real.rate(a, b), due.rate(a, b)); break;
            case 27: a = some(2); same("keep(" + a + ")", real.keep(a), due.keep(a)); break;
            case 28: a = some(2); if (chance.nextInt(3) == 0) { same("back(" + a + ")", real.back(a), due.back(a)); } break;
            case 29: a = some(5); same("count(" + a + ")", real.count(a), due.count(a)); break;
            default: same("trace()", real.trace(), due.trace()); break;
        }
    }

    private void same(String call, long got, long want) {
        calls++;
        check.due(name + calls + ": " + call, got, want);
    }
}
