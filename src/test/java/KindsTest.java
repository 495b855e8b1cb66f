/** Promises 25 to 29: kinds, the trace, images, counts; and the constants. */
public final class KindsTest {
    private static final Check check = new Check("KindsTest");

    public static void main(String[] args) {
        constants();
        kinds();
        refusedKinds();
        kindsNow();
        images();
        imagesAreWhole();
        counts();
        traceGoesOn();
        check.end();
    }

    private static void due(String call, long got, long want) {
        check.due(call, got, want);
    }

    private static void constants() {
        due("BAD", DumplingPolls.BAD, -1);
        due("STATE", DumplingPolls.STATE, -2);
        due("FULL", DumplingPolls.FULL, -3);
        due("NONE", DumplingPolls.NONE, -9);
        due("NO", DumplingPolls.NO, -1000000);
    }

    private static void kinds() {
        DumplingPolls x = check.pot("h4;d1 9 0 0;d7 5 1 2;d30 6 0 0;", 4);
        due("DOUGH", x.rate(0, 1), 5);
        due("trace()", x.trace(), 1);
        due("SUET", x.rate(1, 1), 12);
        due("trace()", x.trace(), 12);
        due("PARSLEY", x.rate(2, 1), 4);
        due("trace()", x.trace(), 113);
        due("LEADER", x.rate(3, 1), 24);
        due("trace()", x.trace(), 1124);
        due("CARROT", x.rate(4, 1), 5);
        due("trace()", x.trace(), 11225);
        due("BAY", x.rate(5, 1), 9);
        due("trace()", x.trace(), 111226);
        due("CARROT of 2", x.rate(4, 2), 7);
        due("LEADER of 2", x.rate(3, 2), 72);
    }

    private static void refusedKinds() {
        DumplingPolls x = check.pot("d1 9 0 0;", 1);
        due("rate(6, 0)", x.rate(6, 0), Check.NO);
        due("rate(-1, 0)", x.rate(-1, 0), Check.NO);
        due("rate(0, 1)", x.rate(0, 1), Check.NO);
        due("rate(0, -1)", x.rate(0, -1), Check.NO);
        due("rate(5, 7)", x.rate(5, 7), Check.NO);
        due("trace()", x.trace(), 0);
        due("rate() of none", new DumplingPolls().rate(0, 0), Check.NO);
    }

    private static void kindsNow() {
        DumplingPolls x = check.pot("h9;g9;d0 1 0 0;d0 1 1 0;d0 1 0 0;d0 1 0 0;", 6);
        for (int d = 0; d < 4; d++) {
            x.drops(d);
        }
        check.minutes(x, 2);
        due("SIZE NOW", x.rate(0, 1), 3);
        due("PARSLEY of four", x.rate(2, 0), -3);
        due("CARROT of four", x.rate(4, 1), 0);
        x.heats(2);
        due("HEAT NOW", x.rate(5, 0), 3);
        x.skewers(2);
        due("PARSLEY alone", x.rate(2, 0), 0);
    }

    private static void images() {
        DumplingPolls x = check.pot("h3;d0 9 0 0;", 2);
        due("keep(2)", x.keep(2), Check.BAD);
        due("keep(-1)", x.keep(-1), Check.BAD);
        due("back(2)", x.back(2), Check.BAD);
        due("back(-1)", x.back(-1), Check.BAD);
        due("back(0)", x.back(0), Check.STATE);
        check.minutes(x, 2);
        due("keep(0)", x.keep(0), 2);
        due("back(1)", x.back(1), Check.STATE);
        check.minutes(x, 3);
        due("keep(1)", x.keep(1), 5);
        due("UNDONE behind keep()", x.now(6), 5);
        due("back(0)", x.back(0), 2);
        due("UNDONE behind back()", x.now(6), 0);
        due("undo() behind back()", x.undo(), Check.STATE);
        due("back(1)", x.back(1), 5);
        due("back(0) again", x.back(0), 2);
        check.minutes(x, 5);
        due("keep(0) anew", x.keep(0), 7);
        check.minutes(x, 1);
        due("UNDONE on", x.undo(), 5);
        due("back(0) to the new one", x.back(0), 7);
    }

    private static void imagesAreWhole() {
        DumplingPolls x = check.pot("h9;g9;d0 8 1 0;d0 8 1 0;d0 1 0 0;", 5);
        x.drops(0);
        x.drops(1);
        check.minutes(x, 10);
        x.keep(1);
        x.sees(0, 1, 9);
        check.types(x, "abc");
        x.dips(0);
        x.skewers(1);
        x.heats(1);
        x.drops(2);
        check.minutes(x, 1);
        x.pot();
        due("back(1)", x.back(1), 10);
        due("HEAT", x.now(1), 9);
        due("DRY", x.now(2), 4);
        due("up", x.now(3), 3);
        due("RISEN", x.now(4), 2);
        due("SIZE", x.dumpling(1, 1), 18);
        due("LUMP", x.dumpling(1, 5), 3);
        due("RISEN in", x.dumpling(0, 6), 10);
        due("SEEN stays", x.count(4), 1);
        due("THE TEXT stays", x.count(5), 3);
        check.minutes(x, 1);
        x.heats(0);
        due("undo() behind back()", x.undo(), 1);
        due("an image is not changed by what is done", x.back(1), 10);
        due("SIZE again", x.dumpling(1, 1), 18);
    }

    private static void counts() {
        DumplingPolls x = check.pot("h8;g7;r33;d0 8 1 0;d0 8 1 0;", 5);
        x.sees(0, 1, 9);
        x.heats(1);
        check.types(x, "h1");
        due("count(0)", x.count(0), 2);
        due("count(1)", x.count(1), 8);
        due("count(2)", x.count(2), 7);
        due("count(3)", x.count(3), 33);
        due("count(4)", x.count(4), 1);
        due("count(5)", x.count(5), 2);
        due("count(6)", x.count(6), Check.BAD);
        due("count(-1)", x.count(-1), Check.BAD);
    }

    private static void traceGoesOn() {
        DumplingPolls x = check.pot("d0 8 1 0;", 1);
        x.keep(0);
        x.drops(0);
        x.rate(1, 0);
        x.undo();
        due("behind undo()", x.trace(), 11);
        x.rate(2, 0);
        x.back(0);
        due("behind back()", x.trace(), 112);
        x.pot();
        due("behind pot()", x.trace(), 112);
    }
}
