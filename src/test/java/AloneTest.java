import java.util.LinkedHashMap;
import java.util.Map;
import java.util.function.Supplier;
import java.util.function.ToLongFunction;

/**
 * What each call changes, and that it changes nothing else: all that can be asked then, and all that can be UNDONE,
 * brought back and read, is as with a twin.
 */
public final class AloneTest {
    private static final Check check = new Check("AloneTest");
    private static final int NONE = Check.NONE;

    public static void main(String[] args) {
        sceneIsMixed();
        asks(Scene::mixed);
        asks(Scene::both);
        otherAsks();
        changes();
        behindEach(Scene::mixed);
        behindEach(Scene::both);
        typed();
        cleared();
        forgotten();
        kept();
        broughtBack();
        readAnew(Scene::mixed);
        readAnew(Scene::both);
        check.end();
    }

    /** "As things are NOW; nothing is changed" */
    private static void leaves(Supplier<DumplingPolls> scene, String call, ToLongFunction<DumplingPolls> ask, long due) {
        DumplingPolls x = scene.get();
        check.due(call, ask.applyAsLong(x), due);
        check.due(call + " again", ask.applyAsLong(x), due);
        alike(call, x, scene.get());
        nextIsAlike(scene, call, ask);
    }

    /** What is called next is of a new object each time, so that it can't be changed alike by what was called first. */
    private static void nextIsAlike(Supplier<DumplingPolls> scene, String call, ToLongFunction<DumplingPolls> ask) {
        Map<String, ToLongFunction<DumplingPolls>> next = new LinkedHashMap<>(Scene.ASKS);
        next.put("undo()", DumplingPolls::undo);
        next.put("back(0)", x -> x.back(0));
        next.put("back(1)", x -> x.back(1));
        next.put("pot()", DumplingPolls::pot);
        next.forEach((name, then) -> {
            DumplingPolls x = scene.get();
            ask.applyAsLong(x);
            check.due(name + " behind " + call, then.applyAsLong(x), then.applyAsLong(scene.get()));
        });
    }

    /** What the calls below count on, as far as calls that led to it could have changed it. */
    private static void sceneIsMixed() {
        DumplingPolls x = Scene.mixed();
        int[] counts = {5, 5, 2, 9, 3, 4};
        int[][] told = {{20, 1, 5}, {20, 1, 3}, {0, 2, 0}, {1, 0, 2}, {0, 0, 1}};
        for (int what = 0; what < 6; what++) {
            check.due("count(" + what + ")", x.count(what), counts[what]);
        }
        for (int d = 0; d < 5; d++) {
            check.due("WEIGHT", x.dumpling(d, 0), told[d][0]);
            check.due("SWELL", x.dumpling(d, 2), told[d][1]);
            check.due("SEATS", x.dumpling(d, 3), told[d][2]);
        }
        check.due("may be UNDONE", x.now(6), 5);
        check.due("back(1)", x.back(1), Check.STATE);
        check.due("back(1) of both()", Scene.both().back(1), 13);
        check.due("now(6) of both()", Scene.both().now(6), 5);
    }

    private static void alike(String call, DumplingPolls x, DumplingPolls twin) {
        check.same("all behind " + call, Scene.all(x), Scene.all(twin));
        check.same("what comes behind " + call, Scene.behind(x), Scene.behind(twin));
    }

    private static void asks(Supplier<DumplingPolls> mixed) {
        leaves(mixed, "dumpling(0, 1)", x -> x.dumpling(0, 1), 12);
        leaves(mixed, "dumpling(3, 6)", x -> x.dumpling(3, 6), NONE);
        leaves(mixed, "dumpling(2, 4)", x -> x.dumpling(2, 4), NONE);
        leaves(mixed, "now(0)", x -> x.now(0), 14);
        leaves(mixed, "now(5), one larger than ROOM", x -> x.now(5), NONE);
        leaves(mixed, "order(0)", x -> x.order(0), 2);
        leaves(mixed, "order(5)", x -> x.order(5), NONE);
        leaves(mixed, "deep(0, 3)", x -> x.deep(0, 3), 5);
        leaves(mixed, "deep(4, 40)", x -> x.deep(4, 40), 0);
        leaves(mixed, "deep(2, 3)", x -> x.deep(2, 3), NONE);
        leaves(mixed, "when(4)", x -> x.when(4), 0);
        leaves(mixed, "when(0)", x -> x.when(0), 13);
        leaves(mixed, "warm(0, 40)", x -> x.warm(0, 40), 0);
        leaves(mixed, "warm(0, 2)", x -> x.warm(0, 2), 8);
        leaves(mixed, "warm(0, 1)", x -> x.warm(0, 1), NONE);
        leaves(mixed, "kept(3, 10)", x -> x.kept(3, 10), 0);
        leaves(mixed, "kept(3, 9)", x -> x.kept(3, 9), NONE);
        leaves(mixed, "party(8)", x -> x.party(8), 3);
        leaves(mixed, "party(12)", x -> x.party(12), NONE);
        leaves(mixed, "power(1, 8)", x -> x.power(1, 8), 6);
        leaves(mixed, "odds(2, 0, 0)", x -> x.odds(2, 0, 0), 64);
        leaves(mixed, "odds(2, 0, 1)", x -> x.odds(2, 0, 1), 125);
        leaves(mixed, "weights(0, 0)", x -> x.weights(0, 0), 1);
        leaves(mixed, "weights(0, 1)", x -> x.weights(0, 1), 15);
        leaves(mixed, "weights(0, 2)", x -> x.weights(0, 2), 15);
        leaves(mixed, "weights(1, 0)", x -> x.weights(1, 0), 0);
        leaves(mixed, "weights(1, 1)", x -> x.weights(1, 1), NONE);
        leaves(mixed, "weights(1, 2)", x -> x.weights(1, 2), NONE);
        leaves(mixed, "look(3)", x -> x.look(3), 1);
        leaves(mixed, "look(0)", x -> x.look(0), NONE);
        leaves(mixed, "look(1)", x -> x.look(1), NONE);
        leaves(mixed, "count(3)", x -> x.count(3), 9);
        leaves(mixed, "trace()", DumplingPolls::trace, 10101);
    }

    private static void otherAsks() {
        leaves(Scene::sunk, "when(3)", x -> x.when(3), NONE);
        leaves(Scene::sunk, "warm(3, 40)", x -> x.warm(3, 40), NONE);
        leaves(Scene::calm, "look(0)", x -> x.look(0), 11);
        leaves(Scene::fresh, "now(5)", x -> x.now(5), 0);
    }

    /** What is other than ahead of the call, and how it is; weights() as things are NOW. */
    private static void change(String call, ToLongFunction<DumplingPolls> ask, long due, String changed) {
        DumplingPolls x = Scene.mixed();
        Map<String, Long> was = Scene.asked(x);
        check.due(call, ask.applyAsLong(x), due);
        check.same("what is changed by " + call, Scene.changed(was, Scene.asked(x)), "{" + changed + "}");
    }

    private static void changes() {
        change("drops(3)", x -> x.drops(3), 4, "dumpling(3, 4)=10, now(2)=4, now(6)=6");
        change("drops(2)", x -> x.drops(2), 4, "dumpling(2, 4)=10, now(2)=8, now(6)=6");
        change("minute()", DumplingPolls::minute, 1, "dumpling(0, 1)=13, dumpling(0, 4)=3, dumpling(1, 1)=13, "
            + "dumpling(1, 4)=3, now(0)=15, now(6)=6, weights(0, 1)=16, weights(0, 2)=16");
        change("heats(7)", x -> x.heats(7), 2, "now(1)=7, now(6)=6, weights(0, 1)=20, weights(0, 2)=20");
        change("skewers(0)", x -> x.skewers(0), 6, "dumpling(0, 1)=6, dumpling(0, 5)=1, dumpling(1, 5)=2, now(6)=6, "
            + "weights(0, 1)=9, weights(0, 2)=9");
        change("skewers(1)", x -> x.skewers(1), 6, "dumpling(0, 5)=1, dumpling(1, 1)=6, dumpling(1, 5)=2, now(6)=6");
        change("dips(4)", x -> x.dips(4), 3, "dumpling(4, 4)=-9, now(2)=28, now(3)=0, now(6)=6");
        change("undo()", DumplingPolls::undo, 4, "dumpling(0, 1)=11, dumpling(0, 4)=1, dumpling(1, 1)=11, "
            + "dumpling(1, 4)=1, now(0)=13, now(6)=4, weights(0, 1)=14, weights(0, 2)=14");
        change("back(0)", x -> x.back(0), 12, "dumpling(0, 1)=21, dumpling(0, 4)=0, dumpling(1, 1)=21, "
            + "dumpling(1, 4)=0, now(0)=12, now(1)=9, now(3)=19, now(6)=0, weights(0, 1)=31, weights(0, 2)=31");
        change("keep(0)", x -> x.keep(0), 14, "");
        change("keep(1)", x -> x.keep(1), 14, "");
        change("type(59)", x -> x.type(59), 5, "count(5)=5");
        change("clear()", DumplingPolls::clear, 4, "count(5)=0");
        change("sees(3, 2, 8)", x -> x.sees(3, 2, 8), 4, "count(4)=4, weights(3, 0)=5, weights(3, 2)=4");
        change("forget()", DumplingPolls::forget, 3, "count(4)=0, weights(0, 0)=41, weights(0, 1)=0, "
            + "weights(0, 2)=40, weights(1, 0)=41, weights(1, 1)=0, weights(1, 2)=40");
        change("rate(0, 2)", x -> x.rate(0, 2), 30, "trace()=10102");
        change("rate(1, 3)", x -> x.rate(1, 3), 4, "trace()=10112");
        change("rate(2, 4)", x -> x.rate(2, 4), 1, "trace()=10202");
        change("rate(3, 0)", x -> x.rate(3, 0), 64, "trace()=11112");
        change("rate(4, 1)", x -> x.rate(4, 1), 11, "trace()=20202");
        change("rate(5, 0)", x -> x.rate(5, 0), 14, "trace()=110102");
    }

    /** What is done leaves nothing behind that undo() doesn't take back. */
    private static void undone(Supplier<DumplingPolls> scene, String call, ToLongFunction<DumplingPolls> ask) {
        DumplingPolls x = scene.get();
        ask.applyAsLong(x);
        check.due("undo() of " + call, x.undo(), 5);
        alike(call + ", UNDONE", x, scene.get());
    }

    private static void behindEach(Supplier<DumplingPolls> scene) {
        undone(scene, "drops(3)", x -> x.drops(3));
        undone(scene, "drops(2)", x -> x.drops(2));
        undone(scene, "minute()", DumplingPolls::minute);
        undone(scene, "heats(7)", x -> x.heats(7));
        undone(scene, "skewers(0)", x -> x.skewers(0));
        undone(scene, "dips(4)", x -> x.dips(4));
        DumplingPolls x = scene.get();
        check.due("undo() of minute()", x.undo(), 4);
        check.due("minute() again", x.minute(), 1);
        alike("minute(), UNDONE and done again", x, scene.get());
        x = scene.get();
        x.clear();
        x.type('q');
        x.clear();
        Scene.tell(x, "h1;d");
        alike("type() of the same anew", x, scene.get());
        x = scene.get();
        x.sees(3, 2, 8);
        x.forget();
        Scene.see(x);
        alike("sees() of the same anew", x, scene.get());
        for (int kind = 0; kind < 6; kind++) {
            x = scene.get();
            x.rate(kind, 1);
            check.same("what comes behind rate()", Scene.behind(x), Scene.behind(scene.get()));
        }
    }

    private static void typed() {
        DumplingPolls x = Scene.mixed();
        Scene.tell(x, "9 3 1 4;");
        check.due("letters", x.count(5), 12);
        check.due("pot() of all", x.pot(), 2);
        check.due("HEAT", x.count(1), 1);
        check.due("WEIGHT", x.dumpling(0, 0), 9);
    }

    private static void cleared() {
        DumplingPolls x = Scene.mixed();
        check.due("clear()", x.clear(), 4);
        DumplingPolls twin = Scene.calm();
        Scene.see(twin);
        alike("clear()", x, twin);
    }

    private static void forgotten() {
        DumplingPolls x = Scene.mixed();
        check.due("forget()", x.forget(), 3);
        DumplingPolls twin = Scene.calm();
        Scene.tell(twin, "h1;d");
        alike("forget()", x, twin);
    }

    /** An image is as things were, the other one and what can be UNDONE stay. */
    private static void kept() {
        for (int image = 0; image < 2; image++) {
            DumplingPolls x = Scene.mixed();
            x.keep(image);
            x.undo();
            DumplingPolls twin = Scene.mixed();
            twin.undo();
            check.same("undo() behind keep()", Scene.all(x), Scene.all(twin));
            x.back(image);
            twin = Scene.mixed();
            check.same("back() to it", Scene.all(x), Scene.all(twin).replace("now(6)=5", "now(6)=0"));
        }
        DumplingPolls x = Scene.mixed();
        x.keep(1);
        x.back(0);
        DumplingPolls twin = Scene.mixed();
        twin.back(0);
        check.same("back() to the other", Scene.all(x), Scene.all(twin));
        x = Scene.busy();
        x.keep(0);
        x.back(1);
        twin = Scene.busy();
        twin.back(1);
        check.same("back() to the other", Scene.all(x), Scene.all(twin));
    }

    /** As behind five times undo(), which come to what image 0 has. */
    private static void broughtBack() {
        DumplingPolls x = Scene.mixed();
        check.due("back(0)", x.back(0), 12);
        alike("back(0)", x, Scene.undone());
        x = Scene.mixed();
        x.back(0);
        x.drops(2);
        x.minute();
        check.due("back(0) again", x.back(0), 12);
        alike("back(0) again", x, Scene.undone());
    }

    /** "Read anew": as a new object that reads it, but for THE TRACE. */
    private static void readAnew(Supplier<DumplingPolls> scene) {
        String[] texts = {"", "d9 7 1 7;", "h8;g9;r40;", "d9 9 3 9;d1 1 0 0;d4 8 2 1;d7 7 3 3;d2 2 1 4;d3 3 0 3;"};
        for (String text : texts) {
            DumplingPolls x = scene.get();
            DumplingPolls twin = new DumplingPolls();
            x.clear();
            Scene.tell(x, text);
            Scene.tell(twin, text);
            check.due("pot() of " + text, x.pot(), twin.pot());
            check.same("all behind pot()", Scene.all(x), Scene.all(twin).replace("trace()=0", "trace()=10101"));
            check.same("what comes behind pot()", Scene.behind(x), Scene.behind(twin));
        }
    }
}
