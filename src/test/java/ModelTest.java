/** Runs of calls, each answer beside that of the model. The runs are always the same. */
public final class ModelTest {
    private static final Check check = new Check("ModelTest");
    private static final int[] EDGES = {-1, 0, 1, 5, 6, 7, 9, 10, 11, 20, 21, 40, 41, 54, 55,
        255, 256, Integer.MAX_VALUE, Integer.MIN_VALUE, Integer.MIN_VALUE + 1, 1 << 16, -10, -9};
    private static final int LETTERS = 120;
    private static long seed = 7;
    private static int haste;

    public static void main(String[] args) {
        for (int run = 0; run < 1500; run++) {
            play(run);
        }
        check.end();
    }

    private static int below(int n) {
        seed = seed * 6364136223846793005L + 1442695040888963407L;
        return (int) ((seed >>> 33) % n);
    }

    private static int from(int low, int high) {
        return low + below(high - low + 1);
    }

    /** Now and then a number from the edges instead. */
    private static int some(int low, int high) {
        return below(40) == 0 ? EDGES[below(EDGES.length)] : from(low, high);
    }

    private static String text() {
        StringBuilder text = new StringBuilder();
        int ones = below(8) == 0 ? below(3) : from(3, 6);
        int heavy = below(3) == 0 ? 40 : 20;
        for (int i = 0; i < ones; i++) {
            text.append('d').append(blank()).append(below(heavy + 1)).append(' ').append(from(1, 9));
            text.append(blank()).append(' ').append(below(4)).append(' ').append(below(10)).append(';');
        }
        for (char sign : new char[] {'h', 'g', 'r'}) {
            if (below(3) != 0) {
                int number = sign == 'r' ? from(9, 40) : below(10);
                String item = sign + blank() + number + ";";
                text.insert(below(2) == 0 ? 0 : text.length(), item);
            }
        }
        if (below(6) == 0 && text.length() > 0) {
            int at = below(text.length());
            String signs = "dhgr; 0123456789x\u0000\u0001\u0002\u00ff";
            if (below(2) == 0) {
                text.setCharAt(at, signs.charAt(below(signs.length())));
            } else {
                text.deleteCharAt(at);
            }
        }
        return text.toString();
    }

    private static String blank() {
        return below(9) == 0 ? " " : "";
    }

    private static void play(int run) {
        DumplingPolls x = new DumplingPolls();
        Model y = new Model();
        int calls = tell(x, y, 0);
        int anew = below(3);
        haste = 6 + below(30);
        while (calls < 512) {
            if (anew > 0 && calls < 512 - LETTERS - 2 && below(200) == 0) {
                calls = tell(x, y, calls);
            } else {
                ask(x, y, run);
                calls++;
            }
        }
    }

    private static int tell(DumplingPolls x, Model y, int calls) {
        String text = text();
        for (int i = 0; i < text.length(); i++) {
            check.due("type()", x.type(text.charAt(i)), y.type(text.charAt(i)));
        }
        check.due("pot() of " + text, x.pot(), y.pot());
        if (below(2) == 0) {
            check.due("clear()", x.clear(), y.clear());
        }
        return calls + text.length() + 2;
    }

    private static void ask(DumplingPolls x, Model y, int run) {
        String name = "run " + run + ": ";
        int which = below(100);
        if (which < haste) {
            check.due(name + "minute()", x.minute(), y.minute());
        } else if (which < 40) {
            askDone(x, y, name);
        } else if (which < 62) {
            askForetold(x, y, name);
        } else if (which < 76) {
            askWeights(x, y, name);
        } else {
            askState(x, y, name);
        }
    }

    private static void askDone(DumplingPolls x, Model y, String name) {
        int d = some(0, 5);
        int n = some(0, 9);
        switch (below(9)) {
            case 0: case 1: case 2: check.due(name + "drops(" + d + ")", x.drops(d), y.drops(d)); break;
            case 3: check.due(name + "heats(" + n + ")", x.heats(n), y.heats(n)); break;
            case 4: check.due(name + "skewers(" + d + ")", x.skewers(d), y.skewers(d)); break;
            case 5: case 6: check.due(name + "dips(" + d + ")", x.dips(d), y.dips(d)); break;
            case 7: check.due(name + "undo()", x.undo(), y.undo()); break;
            default:
                int image = some(0, 1);
                if (below(3) == 0) {
                    check.due(name + "back(" + image + ")", x.back(image), y.back(image));
                } else {
                    check.due(name + "keep(" + image + ")", x.keep(image), y.keep(image));
                }
        }
    }

    private static void askForetold(DumplingPolls x, Model y, String name) {
        int d = some(0, 5);
        int n = some(below(2) == 0 ? 10 : 1, 40);
        int q = some(1, below(2) == 0 ? 54 : 20);
        int k = some(0, 6);
        int t = some(0, 10);
        int what = some(0, 1);
        String one = "(" + d + ", ";
        switch (below(7)) {
            case 0: check.due(name + "deep" + one + n, x.deep(d, n), y.deep(d, n)); break;
            case 1: check.due(name + "when" + one, x.when(d), y.when(d)); break;
            case 2: check.due(name + "warm" + one + n, x.warm(d, n), y.warm(d, n)); break;
            case 3: check.due(name + "kept" + one + n, x.kept(d, n), y.kept(d, n)); break;
            case 4: check.due(name + "party(" + q, x.party(q), y.party(q)); break;
            case 5: check.due(name + "power" + one + q, x.power(d, q), y.power(d, q)); break;
            default: check.due(name + "odds(" + t + ", " + k + ", " + what, x.odds(t, k, what), y.odds(t, k, what));
        }
    }

    private static void askWeights(DumplingPolls x, Model y, String name) {
        int d = some(0, 5);
        int m = some(1, 20);
        int v = below(3) == 0 ? some(0, 10) : 10 - Math.min(10, Math.max(0, m - below(8)));
        int what = some(0, 2);
        int which = below(16);
        if (which < 6) {
            check.due(name + "sees(" + d + ", " + m + ", " + v, x.sees(d, m, v), y.sees(d, m, v));
        } else if (which < 11) {
            check.due(name + "weights(" + d + ", " + what, x.weights(d, what), y.weights(d, what));
        } else if (which < 15) {
            check.due(name + "look(" + d, x.look(d), y.look(d));
        } else {
            check.due(name + "forget()", x.forget(), y.forget());
        }
    }

    private static void askState(DumplingPolls x, Model y, String name) {
        int d = some(0, 5);
        int what = some(0, 6);
        int kind = some(0, 5);
        switch (below(8)) {
            case 0: case 1: case 2:
                check.due(name + "dumpling(" + d + ", " + what, x.dumpling(d, what), y.dumpling(d, what));
                break;
            case 3: case 4: check.due(name + "now(" + what, x.now(what), y.now(what)); break;
            case 5: check.due(name + "order(" + d, x.order(d), y.order(d)); break;
            case 6: check.due(name + "rate(" + kind + ", " + d, x.rate(kind, d), y.rate(kind, d)); break;
            default:
                if (d < 2) {
                    check.due(name + "trace()", x.trace(), y.trace());
                } else {
                    check.due(name + "count(" + kind, x.count(kind), y.count(kind));
                }
        }
    }
}
