import java.util.LinkedHashMap;
import java.util.Map;
import java.util.function.ToLongFunction;

/** Objects in the midst of a run, all that can be asked of them, and all that comes behind. */
final class Scene {
    private Scene() { }

    static void tell(DumplingPolls x, String text) {
        for (int i = 0; i < text.length(); i++) {
            x.type(text.charAt(i));
        }
    }

    private static DumplingPolls pot(String text) {
        DumplingPolls x = new DumplingPolls();
        tell(x, text);
        x.pot();
        return x;
    }

    /** 0 and 1 are one LUMP on its way, 2 has RISEN and is DRY, 3 is DRY, 4 is up; both images are kept. */
    static DumplingPolls busy() {
        DumplingPolls x = pot("h8;g1;r15;d8 4 1 5;d7 4 1 3;d0 9 2 0;d30 3 0 2;d0 2 0 1;");
        x.drops(2);
        x.drops(4);
        x.minute();
        x.minute();
        x.keep(0);
        x.heats(7);
        x.drops(0);
        x.drops(1);
        for (int i = 0; i < 8; i++) {
            x.minute();
        }
        x.dips(2);
        x.undo();
        x.dips(2);
        x.keep(1);
        x.heats(0);
        x.minute();
        x.sees(0, 3, 8);
        x.sees(3, 20, 10);
        x.sees(0, 7, 4);
        x.rate(4, 1);
        tell(x, "h1;d");
        return x;
    }

    /**
     * As busy(), but 0 and 1 have RISEN, too, HEAT is neither as told nor 0, GLUE and ROOM not as at first,
     * just image 0 is kept, 3 can come up, one is larger than ROOM, less than ten things may be UNDONE;
     * nothing is SEEN, no letter is typed.
     */
    static DumplingPolls calm() {
        return calm(1);
    }

    private static DumplingPolls calm(int weightOf3) {
        DumplingPolls x = pot("h5;g2;r9;d20 9 1 5;d20 9 1 3;d0 9 2 0;d" + weightOf3 + " 3 0 2;d0 2 0 1;");
        x.heats(9);
        x.drops(0);
        x.drops(1);
        x.drops(2);
        x.drops(4);
        for (int i = 0; i < 12; i++) {
            x.minute();
        }
        x.dips(2);
        x.keep(0);
        x.back(0);
        x.heats(2);
        x.skewers(0);
        x.skewers(1);
        x.minute();
        x.minute();
        x.rate(4, 1);
        return x;
    }

    static void see(DumplingPolls x) {
        x.sees(0, 3, 8);
        x.sees(1, 5, 5);
        x.sees(1, 6, 9);
    }

    static DumplingPolls mixed() {
        return mixed(calm());
    }

    private static DumplingPolls mixed(DumplingPolls x) {
        see(x);
        tell(x, "h1;d");
        return x;
    }

    /** As mixed(), but image 1 is kept, too, as things were a minute ago. */
    static DumplingPolls both() {
        return both(mixed());
    }

    private static DumplingPolls both(DumplingPolls x) {
        x.undo();
        x.keep(1);
        x.minute();
        return x;
    }

    /** The minute is 99, more than ten things were done; 0 and 1 are up in one LUMP. */
    static DumplingPolls late() {
        return late(both());
    }

    /** As late(), but image 1 was not kept. */
    static DumplingPolls lateMixed() {
        return late(mixed());
    }

    private static DumplingPolls late(DumplingPolls x) {
        for (int i = x.now(0); i < 99; i++) {
            x.minute();
        }
        return x;
    }

    /** Nothing can be UNDONE any more, image 1 was not kept. */
    static DumplingPolls undone() {
        DumplingPolls x = mixed();
        for (int i = 0; i < 5; i++) {
            x.undo();
        }
        return x;
    }

    /** As both(), but 3 is DROPPED and never comes up. */
    static DumplingPolls sunk() {
        DumplingPolls x = both(mixed(calm(40)));
        x.drops(3);
        return x;
    }

    /** THE TEXT is full, and so is what is SEEN. */
    static DumplingPolls full() {
        DumplingPolls x = calm();
        tell(x, "h7;".repeat(40));
        for (int i = 0; i < 6; i++) {
            x.sees(i % 2, 2, 9);
        }
        return x;
    }

    static DumplingPolls fresh() {
        return new DumplingPolls();
    }

    /** All calls that ask and change nothing, and how each is told. */
    static final Map<String, ToLongFunction<DumplingPolls>> ASKS = asks();

    private static Map<String, ToLongFunction<DumplingPolls>> asks() {
        Map<String, ToLongFunction<DumplingPolls>> asks = new LinkedHashMap<>();
        for (int i = 0; i < 42; i++) {
            int d = i / 7;
            int what = i % 7;
            asks.put("dumpling(" + d + ", " + what + ")", x -> x.dumpling(d, what));
        }
        for (int i = 0; i < 7; i++) {
            int what = i;
            asks.put("now(" + what + ")", x -> x.now(what));
        }
        for (int i = 0; i < 6; i++) {
            int k = i;
            asks.put("order(" + k + ")", x -> x.order(k));
            asks.put("count(" + k + ")", x -> x.count(k));
        }
        for (int i = 0; i < 15; i++) {
            int d = i / 3;
            int what = i % 3;
            asks.put("weights(" + d + ", " + what + ")", x -> x.weights(d, what));
        }
        asks.put("trace()", DumplingPolls::trace);
        return asks;
    }

    static Map<String, Long> asked(DumplingPolls x) {
        Map<String, Long> told = new LinkedHashMap<>();
        ASKS.forEach((call, ask) -> told.put(call, ask.applyAsLong(x)));
        return told;
    }

    static String all(DumplingPolls x) {
        return asked(x).toString();
    }

    /** What is not as it was, with what it is now. */
    static String changed(Map<String, Long> was, Map<String, Long> is) {
        Map<String, Long> changed = new LinkedHashMap<>(is);
        changed.entrySet().removeAll(was.entrySet());
        return changed.toString();
    }

    private static void some(DumplingPolls x, StringBuilder told) {
        told.append(" ").append(x.now(0)).append(" ").append(x.now(1)).append(" ").append(x.now(4));
        for (int d = 0; d < 5; d++) {
            told.append(" ").append(x.dumpling(d, 1)).append(",").append(x.dumpling(d, 4));
            told.append(",").append(x.dumpling(d, 5)).append(",").append(x.dumpling(d, 6));
        }
        told.append(";");
    }

    /** What THE TEXT tells; changes the object. */
    static String text(DumplingPolls x) {
        return "pot " + x.pot() + " clear " + x.clear() + " heat " + x.count(1);
    }

    /** What can be UNDONE, what the images have, and what THE TEXT tells; changes the object. */
    static String behind(DumplingPolls x) {
        StringBuilder told = new StringBuilder();
        int left = 0;
        for (int i = 0; i < 11 && left >= 0; i++) {
            left = x.undo();
            told.append("undo ").append(left);
            some(x, told);
        }
        for (int image = 0; image < 2; image++) {
            told.append("back ").append(x.back(image));
            some(x, told);
        }
        return told.append(text(x)).toString();
    }
}
