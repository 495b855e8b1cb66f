import java.util.ArrayList;
import java.util.List;
import java.util.function.Supplier;
import java.util.function.ToIntFunction;

/**
 * "Refused, and nothing changes, the first of these: BAD (a number is not as told, or there is no such thing),
 * STATE (as told), FULL." Each refusal is asked of a new object; all that can be seen of it then, and all that
 * can be UNDONE, brought back and read, is as with a twin of which it was not asked.
 */
public final class RefusedTest {
    private static final Check check = new Check("RefusedTest");
    private static final int BAD = Check.BAD, STATE = Check.STATE, FULL = Check.FULL, NO = Check.NO;
    private static final int MIN = Integer.MIN_VALUE, MAX = Integer.MAX_VALUE;
    private static final List<Asked> asked = new ArrayList<>();

    private record Asked(String call, ToIntFunction<DumplingPolls> ask, int due) { }

    public static void main(String[] args) {
        sceneIsBusy();
        refusedOnTheWay(Scene::busy);
        refusedOnTheWay(Scene::mixed);
        answers();
        leaveAlone(Scene::busy);
        lateOnes();
        refuse(Scene::late);
        lateOnes();
        refuse(Scene::lateMixed);
        undoneOnes();
        refuse(Scene::undone);
        fullOnes();
        refuse(Scene::full);
        freshOnes();
        refuse(Scene::fresh);
        traceAlone();
        keepAlone();
        check.end();
    }

    private static void refusedOnTheWay(Supplier<DumplingPolls> scene) {
        badOnes();
        badNumbers();
        badAheadOfState();
        states();
        faults();
        refuse(scene);
    }

    private static void no(String call, ToIntFunction<DumplingPolls> ask, int due) {
        asked.add(new Asked(call, ask, due));
    }

    private static void bad(String call, ToIntFunction<DumplingPolls> ask) {
        no(call, ask, BAD);
    }

    /** Asks all that was gathered, twice each, and forgets it. */
    private static void refuse(Supplier<DumplingPolls> scene) {
        for (Asked a : asked) {
            check.due(a.call, a.ask.applyAsInt(scene.get()), a.due);
        }
        leaveAlone(scene);
    }

    private static void leaveAlone(Supplier<DumplingPolls> scene) {
        String now = Scene.all(scene.get());
        String behind = Scene.behind(scene.get());
        String text = Scene.text(scene.get());
        for (Asked a : asked) {
            DumplingPolls x = scene.get();
            a.ask.applyAsInt(x);
            a.ask.applyAsInt(x);
            check.same("all behind " + a.call, Scene.all(x), now);
            x = scene.get();
            a.ask.applyAsInt(x);
            check.same("what comes behind " + a.call, Scene.behind(x), behind);
            x = scene.get();
            a.ask.applyAsInt(x);
            check.same("THE TEXT behind " + a.call, Scene.text(x), text);
        }
        asked.clear();
    }

    /** What the calls below count on. */
    private static void sceneIsBusy() {
        DumplingPolls x = Scene.busy();
        check.due("one LUMP", x.dumpling(0, 5), 3);
        check.due("DRY", x.now(2), 12);
        check.due("up", x.now(3), 16);
        check.due("2 has RISEN", x.dumpling(2, 6), 10);
        check.due("3 has not", x.dumpling(3, 6), Check.NONE);
        check.due("HEAT", x.now(1), 0);
        check.due("may be UNDONE", x.now(6), 10);
        check.due("minute", x.now(0), 11);
        check.due("SEEN", x.count(4), 3);
        check.due("letters", x.count(5), 4);
        check.due("minute of late()", Scene.late().now(0), 99);
        check.due("letters of full()", Scene.full().count(5), 120);
        check.due("SEEN of full()", Scene.full().count(4), 6);
    }

    /** "there is no such thing": DUMPLINGS are 0 to 4 here. */
    private static void badOnes() {
        for (int d : new int[] {-1, 5, 6, 7, 31, 32, 36, 64, 255, 256, MIN, MIN + 2, MAX}) {
            String one = "(" + d + ", ";
            for (int what = 0; what < 7; what++) {
                int asking = what;
                bad("dumpling" + one + what, x -> x.dumpling(d, asking));
            }
            bad("drops" + one, x -> x.drops(d));
            bad("skewers" + one, x -> x.skewers(d));
            bad("dips" + one, x -> x.dips(d));
            bad("deep" + one, x -> x.deep(d, 1));
            bad("when" + one, x -> x.when(d));
            bad("warm" + one, x -> x.warm(d, 1));
            bad("kept" + one, x -> x.kept(d, 1));
            bad("power" + one, x -> x.power(d, 1));
            bad("sees" + one, x -> x.sees(d, 1, 1));
            bad("weights" + one, x -> x.weights(d, 0));
            bad("look" + one, x -> x.look(d));
            for (int kind = 0; kind < 6; kind++) {
                int asking = kind;
                no("rate(" + kind + ", " + d, x -> x.rate(asking, d), NO);
            }
        }
    }

    /** "a number is not as told": the first beyond, on both sides, and some far beyond. */
    private static void badNumbers() {
        for (int n : new int[] {-1, 256, 257, 288, MIN, MAX}) {
            bad("type " + n, x -> x.type(n));
        }
        for (int n : new int[] {-1, 7, 8, 32, MIN, MAX}) {
            bad("dumpling(0, " + n, x -> x.dumpling(0, n));
            bad("now " + n, x -> x.now(n));
            bad("odds(1, " + n, x -> x.odds(1, n, 0));
        }
        for (int n : new int[] {-1, 6, 7, 32, MIN, MAX}) {
            bad("order " + n, x -> x.order(n));
            bad("count " + n, x -> x.count(n));
            no("rate(" + n, x -> x.rate(n, 0), NO);
        }
        for (int n : new int[] {-1, 10, 11, 256, MIN, MAX}) {
            bad("heats " + n, x -> x.heats(n));
        }
        for (int n : new int[] {-1, 41, 42, MIN, MAX}) {
            bad("deep(0, " + n, x -> x.deep(0, n));
        }
        for (int n : new int[] {-1, 0, 41, 42, MIN, MAX}) {
            bad("warm(0, " + n, x -> x.warm(0, n));
            bad("kept(3, " + n, x -> x.kept(3, n));
        }
        for (int n : new int[] {-1, 0, 55, 56, MIN, MAX}) {
            bad("party " + n, x -> x.party(n));
            bad("power(0, " + n, x -> x.power(0, n));
        }
        for (int n : new int[] {-1, 11, 12, MIN, MAX}) {
            bad("odds(" + n, x -> x.odds(n, 0, 0));
            bad("sees(0, 1, " + n, x -> x.sees(0, 1, n));
        }
        for (int n : new int[] {-1, 2, 3, 32, 33, MIN, MAX}) {
            bad("odds(1, 0, " + n, x -> x.odds(1, 0, n));
            bad("keep " + n, x -> x.keep(n));
            bad("back " + n, x -> x.back(n));
        }
        for (int n : new int[] {-1, 0, 21, 22, MIN, MAX}) {
            bad("sees(0, " + n, x -> x.sees(0, n, 1));
        }
        for (int n : new int[] {-1, 3, 4, 32, MIN, MAX}) {
            bad("weights(0, " + n, x -> x.weights(0, n));
        }
    }

    private static void badAheadOfState() {
        bad("warm of a DRY one, 0", x -> x.warm(3, 0));
        bad("warm of a DRY one, 41", x -> x.warm(3, 41));
        bad("kept of one that is not DRY, 0", x -> x.kept(0, 0));
        bad("kept of one that is not DRY, 41", x -> x.kept(0, 41));
        bad("kept of one that has RISEN, 0", x -> x.kept(2, 0));
        bad("kept of one that has RISEN, 41", x -> x.kept(2, 41));
        bad("deep of a DRY one, 41", x -> x.deep(3, 41));
        bad("deep of a DRY one, -1", x -> x.deep(3, -1));
        bad("weights of one that is as told, 3", x -> x.weights(1, 3));
        bad("all bad", x -> x.sees(-1, 0, 11));
        bad("all bad", x -> x.odds(-1, 7, 2));
        bad("all bad", x -> x.dumpling(6, 7));
        no("all bad", x -> x.rate(6, 6), NO);
    }

    private static void states() {
        no("drops(0), not DRY", x -> x.drops(0), STATE);
        no("drops(4), up", x -> x.drops(4), STATE);
        no("heats(), it is so", x -> x.heats(x.now(1)), STATE);
        no("skewers(3), DRY", x -> x.skewers(3), STATE);
        no("skewers(2), DRY again", x -> x.skewers(2), STATE);
        no("dips(0), on its way", x -> x.dips(0), STATE);
        no("dips(3), DRY", x -> x.dips(3), STATE);
        no("dips(2), DRY again", x -> x.dips(2), STATE);
        no("when(3), DRY", x -> x.when(3), STATE);
        no("warm(3, 1), DRY", x -> x.warm(3, 1), STATE);
        no("warm(3, 40), DRY", x -> x.warm(3, 40), STATE);
        no("kept(0, 1), not DRY", x -> x.kept(0, 1), STATE);
        no("kept(4, 1), neither", x -> x.kept(4, 1), STATE);
        no("kept(2, 40), has RISEN", x -> x.kept(2, 40), STATE);
    }

    /** "-10 less FAULT: nothing changes (THE TEXT stays, too)." THE TEXT is h1;d here. */
    private static void faults() {
        no("pot() that ends too early", DumplingPolls::pot, -14);
    }

    /** "As things are NOW; nothing is changed": what only asks changes nothing, nor do two asked at once. */
    private static void answers() {
        for (int d = 0; d < 5; d++) {
            int one = d;
            no("when", x -> x.when(one), 0);
            no("look", x -> x.look(one), 0);
            no("weights", x -> x.weights(one, 2), 0);
            for (int n : new int[] {1, 10, 40}) {
                no("deep", x -> x.deep(one, n), 0);
                no("warm", x -> x.warm(one, n), 0);
                no("kept", x -> x.kept(one, n), 0);
            }
            no("power", x -> x.power(one, 6), 0);
        }
        no("kept of one that can be first", x -> x.kept(3, 40) + x.kept(3, 40), 0);
        no("party", x -> x.party(8), 0);
        no("odds", x -> x.odds(3, 1, 0) + x.odds(3, 1, 1), 0);
        no("pots", x -> x.now(5), 0);
        no("order", x -> x.order(0) + x.order(5), 0);
        no("trace", x -> (int) x.trace(), 0);
        no("a letter and back", x -> x.count(5) == 4 ? 0 : 1, 0);
    }

    private static void lateOnes() {
        no("minute() at 99", DumplingPolls::minute, STATE);
        bad("back(2)", x -> x.back(2));
        bad("back(-1)", x -> x.back(-1));
    }

    private static void undoneOnes() {
        no("undo() of no more", DumplingPolls::undo, STATE);
        no("back(1), none was kept", x -> x.back(1), STATE);
        no("heats(9), it is so", x -> x.heats(9), STATE);
    }

    private static void fullOnes() {
        no("type(0), full", x -> x.type(0), FULL);
        no("type(32), full", x -> x.type(32), FULL);
        no("type(255), full", x -> x.type(255), FULL);
        bad("type(-1), BAD ahead of FULL", x -> x.type(-1));
        bad("type(256), BAD ahead of FULL", x -> x.type(256));
        no("sees(0, 1, 0), full", x -> x.sees(0, 1, 0), FULL);
        no("sees(1, 20, 10), full", x -> x.sees(1, 20, 10), FULL);
        bad("sees(5, 1, 0), BAD ahead of FULL", x -> x.sees(5, 1, 0));
        bad("sees(-1, 1, 0), BAD ahead of FULL", x -> x.sees(-1, 1, 0));
        bad("sees(0, 0, 0), BAD ahead of FULL", x -> x.sees(0, 0, 0));
        bad("sees(0, 21, 0), BAD ahead of FULL", x -> x.sees(0, 21, 0));
        bad("sees(0, 1, -1), BAD ahead of FULL", x -> x.sees(0, 1, -1));
        bad("sees(0, 1, 11), BAD ahead of FULL", x -> x.sees(0, 1, 11));
        no("pot() of one h too many", DumplingPolls::pot, -13);
    }

    private static void freshOnes() {
        no("undo() of nothing", DumplingPolls::undo, STATE);
        no("back(0), none was kept", x -> x.back(0), STATE);
        no("back(1), none was kept", x -> x.back(1), STATE);
        no("heats(3), it is so", x -> x.heats(3), STATE);
        for (int d = 0; d < 6; d++) {
            int one = d;
            bad("dumpling", x -> x.dumpling(one, 0));
            bad("drops", x -> x.drops(one));
            bad("skewers", x -> x.skewers(one));
            bad("dips", x -> x.dips(one));
            bad("deep", x -> x.deep(one, 0));
            bad("when", x -> x.when(one));
            bad("warm", x -> x.warm(one, 1));
            bad("kept", x -> x.kept(one, 1));
            bad("power", x -> x.power(one, 1));
            bad("sees", x -> x.sees(one, 1, 0));
            bad("weights", x -> x.weights(one, 0));
            bad("look", x -> x.look(one));
            no("rate", x -> x.rate(0, one), NO);
        }
    }

    /** rate() changes THE TRACE, and nothing else. */
    private static void traceAlone() {
        DumplingPolls x = Scene.busy();
        long was = x.trace();
        for (int kind = 0; kind < 6; kind++) {
            x.rate(kind, kind % 5);
        }
        check.due("all bodies once and those above", x.trace() - was, 111226);
        String now = Scene.all(Scene.busy());
        check.same("but for THE TRACE", Scene.all(x).replaceAll(" t.*", ""), now.replaceAll(" t.*", ""));
        check.same("behind rate()", Scene.behind(x), Scene.behind(Scene.busy()));
    }

    /** keep() changes the image, and nothing else. */
    private static void keepAlone() {
        DumplingPolls x = Scene.busy();
        check.due("keep(1)", x.keep(1), 11);
        check.same("behind keep()", Scene.all(x), Scene.all(Scene.busy()));
        for (int left = 9; left >= 0; left--) {
            check.due("undo()", x.undo(), left);
        }
        check.due("the other image", x.back(0), 2);
        check.due("the image", x.back(1), 11);
    }
}
