/** The document's sentences on what is SEEN, and on kinds, images and counts, each at its edges. */
public final class WeightsEdgesTest {
    private static final Check check = new Check("WeightsEdgesTest");
    private static final int NONE = Check.NONE, STATE = Check.STATE, BAD = Check.BAD, FULL = Check.FULL;

    public static void main(String[] args) {
        sixAtMost();
        minutesAndDepths();
        forgotten();
        allWeights();
        ofItAlone();
        weightsFromEdgeToEdge();
        depthsOfEdges();
        thirtyAtMost();
        sizeNow();
        alone();
        lookAtTwo();
        lookFirstAndLast();
        lookByDepths();
        kindsAtEdges();
        kindsOfLumps();
        bodiesOnce();
        imagesAtEdges();
        imagesKeepAll();
        imagesOfTheLastMinute();
        nothingUndoneBehindBack();
        readAnew();
        counts();
        check.end();
    }

    private static void due(String call, long got, long want) {
        check.due(call, got, want);
    }

    private static DumplingPolls pot(String text) {
        DumplingPolls x = new DumplingPolls();
        Scene.tell(x, text);
        due("pot() of " + text, x.pot() >= 0 ? 0 : 1, 0);
        return x;
    }

    private static void minutes(DumplingPolls x, int many) {
        for (int i = 0; i < many; i++) {
            x.minute();
        }
    }

    private static void three(DumplingPolls x, int d, int many, int least, int greatest) {
        due("weights(" + d + ", 0)", x.weights(d, 0), many);
        due("weights(" + d + ", 1)", x.weights(d, 1), least);
        due("weights(" + d + ", 2)", x.weights(d, 2), greatest);
    }

    /** "SEEN (6 at most)", "how much there is", FULL */
    private static void sixAtMost() {
        DumplingPolls x = pot("d0 5 0 0;d0 5 0 0;");
        for (int i = 1; i <= 6; i++) {
            due("sees() " + i, x.sees(1, i, 10), i);
            due("count(4)", x.count(4), i);
        }
        due("sees() 7", x.sees(1, 7, 10), FULL);
        due("sees() of the other", x.sees(0, 1, 9), FULL);
        due("count(4)", x.count(4), 6);
        three(x, 0, 41, 0, 40);
        three(x, 1, 33, 8, 40);
    }

    /** "DEPTH v (0 .. 10) m (1 .. 20) MINUTES later" */
    private static void minutesAndDepths() {
        for (int m = -1; m <= 22; m++) {
            for (int v = -1; v <= 12; v++) {
                boolean may = m >= 1 && m <= 20 && v >= 0 && v <= 10;
                DumplingPolls x = pot("d0 5 0 0;");
                due("sees(0, " + m + ", " + v + ")", x.sees(0, m, v), may ? 1 : BAD);
                due("count(4)", x.count(4), may ? 1 : 0);
            }
        }
    }

    /** "Nothing is SEEN: how much was." */
    private static void forgotten() {
        DumplingPolls x = pot("d0 5 0 0;");
        due("forget() of nothing", x.forget(), 0);
        for (int many = 1; many <= 6; many++) {
            for (int i = 0; i < many; i++) {
                x.sees(0, 1, i % 2 + 9);
            }
            due("weights() ahead", x.weights(0, 0), many == 1 ? 8 : 0);
            due("forget() of " + many, x.forget(), many);
            due("count(4)", x.count(4), 0);
            due("weights() behind", x.weights(0, 0), 41);
        }
        due("forget() again", x.forget(), 0);
    }

    /** "WEIGHTS (0 .. 40)": all of them, of what was not SEEN. */
    private static void allWeights() {
        DumplingPolls x = pot("d7 5 0 0;");
        three(x, 0, 41, 0, 40);
        due("weights(0, 3)", x.weights(0, 3), BAD);
        due("weights(0, -1)", x.weights(0, -1), BAD);
        due("weights(1, 0)", x.weights(1, 0), BAD);
        due("weights() of no DUMPLINGS", new DumplingPolls().weights(0, 0), BAD);
    }

    /** "all that was SEEN of it": of all six, and of no other. */
    private static void ofItAlone() {
        DumplingPolls x = pot("h3;d0 5 1 0;d0 5 0 0;d0 1 0 0;");
        x.sees(0, 1, 10);
        x.sees(1, 1, 9);
        x.sees(0, 2, 10);
        three(x, 0, 31, 10, 40);
        x.sees(0, 3, 10);
        x.sees(0, 4, 10);
        three(x, 0, 29, 12, 40);
        x.sees(0, 20, 0);
        three(x, 0, 7, 12, 18);
        due("sees() 7", x.sees(0, 20, 1), FULL);
        three(x, 0, 7, 12, 18);
        three(x, 1, 8, 0, 7);
        three(x, 2, 41, 0, 40);
    }

    /** The least is 0 and the greatest 40, if these are so. */
    private static void weightsFromEdgeToEdge() {
        DumplingPolls x = pot("h0;d9 1 0 0;");
        x.sees(0, 1, 9);
        three(x, 0, 1, 0, 0);
        x.forget();
        x.sees(0, 1, 10);
        three(x, 0, 40, 1, 40);
        x = pot("h9;d9 9 3 0;");
        x.sees(0, 7, 9);
        three(x, 0, 3, 36, 38);
        x.forget();
        x.sees(0, 8, 9);
        three(x, 0, 0, NONE, NONE);
        x = pot("h9;d9 9 3 0;");
        x.sees(0, 20, 10);
        three(x, 0, 2, 39, 40);
        x.heats(8);
        three(x, 0, 3, 38, 40);
        x = pot("h9;d9 8 2 0;");
        x.sees(0, 20, 1);
        three(x, 0, 0, NONE, NONE);
        x.forget();
        x.sees(0, 20, 10);
        three(x, 0, 2, 39, 40);
    }

    /** DEPTHS are 0 at least and 10 at most in what is SEEN, too. */
    private static void depthsOfEdges() {
        for (int m = 1; m <= 20; m++) {
            DumplingPolls x = pot("h3;d9 5 0 0;");
            x.sees(0, m, Math.max(0, 10 - m));
            three(x, 0, 8, 0, 7);
            x.sees(0, m, 10);
            three(x, 0, 0, NONE, NONE);
            x.forget();
            x.sees(0, m, 10);
            three(x, 0, 33, 8, 40);
        }
    }

    /** SIZE is 30 at most in what is SEEN, too. */
    private static void thirtyAtMost() {
        DumplingPolls x = pot("h0;d0 9 3 0;");
        for (int m = 7; m <= 20; m++) {
            x.sees(0, m, 10);
            three(x, 0, 11, 30, 40);
            x.forget();
        }
        x.sees(0, 6, 10);
        three(x, 0, 14, 27, 40);
        x.forget();
        x.sees(0, 10, 7);
        three(x, 0, 0, NONE, NONE);
        x.sees(0, 10, 6);
        x.forget();
        x.sees(0, 10, 6);
        three(x, 0, 3, 27, 29);
    }

    /** "(SIZE NOW, SWELL)", "by HEAT NOW": as when it is asked. */
    private static void sizeNow() {
        DumplingPolls x = pot("h3;d40 5 2 0;");
        x.sees(0, 1, 10);
        three(x, 0, 31, 10, 40);
        x.drops(0);
        x.minute();
        three(x, 0, 29, 12, 40);
        x.skewers(0);
        three(x, 0, 33, 8, 40);
        x.heats(9);
        three(x, 0, 27, 14, 40);
        x.keep(0);
        x.undo();
        x.undo();
        x.undo();
        three(x, 0, 31, 10, 40);
        x.back(0);
        three(x, 0, 27, 14, 40);
    }

    /** "were it DROPPED alone": from the bottom, and nothing sticks to it, whatever is NOW. */
    private static void alone() {
        DumplingPolls x = pot("h9;g9;d0 5 0 0;d9 5 0 0;");
        x.drops(0);
        x.drops(1);
        minutes(x, 4);
        due("one LUMP", x.dumpling(0, 5), 3);
        x.sees(0, 2, 8);
        three(x, 0, 14, 0, 13);
        x.sees(1, 2, 10);
        three(x, 1, 27, 14, 40);
        minutes(x, 6);
        three(x, 0, 14, 0, 13);
        x.dips(0);
        three(x, 0, 14, 0, 13);
    }

    /** "LOOK: NONE (one can be at most)": of two there is a minute, of one and of none there isn't. */
    private static void lookAtTwo() {
        DumplingPolls x = pot("h0;d9 1 1 0;d9 2 0 0;d9 1 0 0;");
        x.sees(0, 2, 9);
        three(x, 0, 1, 2, 2);
        due("look(0) of one", x.look(0), NONE);
        x.sees(0, 1, 9);
        three(x, 0, 0, NONE, NONE);
        due("look(0) of none", x.look(0), NONE);
        x.sees(1, 9, 1);
        three(x, 1, 2, 0, 1);
        due("look(1) of two always alike", x.look(1), 1);
        x.sees(2, 1, 9);
        three(x, 2, 1, 0, 0);
        due("look(2) of one", x.look(2), NONE);
        x.forget();
        due("look(2) of all", x.look(2), 1);
        due("look(3)", x.look(3), BAD);
        due("look(-1)", x.look(-1), BAD);
        due("look() of no DUMPLINGS", new DumplingPolls().look(0), BAD);
    }

    /** "the m (1 .. 20) by which the greatest number [..] is least, of several the lowest" */
    private static void lookFirstAndLast() {
        DumplingPolls x = pot("h0;d9 1 1 0;d9 9 0 0;");
        due("look(0), each minute one more comes up", x.look(0), 20);
        x.sees(0, 19, 10);
        three(x, 0, 21, 20, 40);
        due("look(0), all at the bottom till 19, but 20", x.look(0), 20);
        x.forget();
        due("look(1), the same always", x.look(1), 1);
        x = pot("h0;d9 1 2 0;");
        x.sees(0, 2, 9);
        three(x, 0, 2, 3, 4);
        due("look(0), 3 stays where 4 does", x.look(0), 1);
        x = pot("h0;d9 1 3 0;");
        x.sees(0, 3, 9);
        three(x, 0, 3, 7, 9);
        due("look(0), of 7, 8, 9 7 is never alone", x.look(0), 1);
        x = pot("h9;d9 7 3 0;");
        x.sees(0, 6, 10);
        three(x, 0, 7, 34, 40);
        // Three go up in the 7th minute, two in the 8th; 39 and 40 are at the bottom always, and count.
        due("look(0), four at the bottom behind 7, two behind 8", x.look(0), 8);
    }

    /** "the greatest number of these that are alike deep": at one DEPTH, at the bottom and up, too. */
    private static void lookByDepths() {
        DumplingPolls x = pot("h0;d9 1 1 0;");
        // One of WEIGHT w goes up from the w-th minute on, of 0 from the first.
        x.sees(0, 10, 9);
        three(x, 0, 1, 10, 10);
        x.forget();
        x.sees(0, 20, 0);
        three(x, 0, 12, 0, 11);
        // 0 and 1 are alike always; behind m those of m + 1 to 11 are at the bottom: just two behind 9.
        due("look(0) of 0 to 11", x.look(0), 9);
        x.drops(0);
        x.heats(9);
        due("look(0), 9 warmer", x.look(0), 1);
    }

    /** "RATE [..] as if of a KIND": by the least and greatest there are. */
    private static void kindsAtEdges() {
        DumplingPolls x = pot("h0;g0;d0 1 0 0;d40 9 3 0;d0 1 0 0;d0 1 0 0;d0 1 0 0;d40 9 3 0;");
        int[] least = {1, 1, 0, 2, 0, 1};
        int[] greatest = {9, 49, 8, 98, 13, 9};
        for (int kind = 0; kind < 6; kind++) {
            due("rate(" + kind + ", 0)", x.rate(kind, 0), least[kind]);
            due("rate(" + kind + ", 5)", x.rate(kind, 5), greatest[kind]);
        }
        due("rate(4, 1)", x.rate(4, 1), 9);
        x.drops(5);
        minutes(x, 10);
        x.heats(9);
        int[] grown = {30, 70, 29, 140, 34, 39};
        for (int kind = 0; kind < 6; kind++) {
            due("rate(" + kind + ", 5), grown", x.rate(kind, 5), grown[kind]);
        }
        due("rate(6, 0)", x.rate(6, 0), Check.NO);
        due("rate(-1, 0)", x.rate(-1, 0), Check.NO);
        due("rate(0, 6)", x.rate(0, 6), Check.NO);
        due("rate(0, -1)", x.rate(0, -1), Check.NO);
    }

    /** "PARSLEY up less how many are in its LUMP": six, and it is below 0. */
    private static void kindsOfLumps() {
        DumplingPolls x = pot("h9;g0;d0 1 0 0;d0 1 0 0;d0 1 0 0;d0 1 0 0;d0 1 0 0;d0 1 0 0;");
        for (int d = 0; d < 6; d++) {
            due("PARSLEY of one", x.rate(2, d), 0);
            x.drops(d);
        }
        x.minute();
        for (int d = 0; d < 6; d++) {
            due("PARSLEY of six", x.rate(2, d), -5);
            due("CARROT of six", x.rate(4, d), d - 5);
        }
    }

    /** "numbers in brackets are added to THE TRACE [..] as often as rate() asks that body: each once" */
    private static void bodiesOnce() {
        int[] added = {1, 11, 101, 1011, 10101, 100001};
        for (int kind = 0; kind < 6; kind++) {
            DumplingPolls x = pot("d1 1 1 1;");
            due("0 at first", x.trace(), 0);
            for (int times = 1; times <= 3; times++) {
                x.rate(kind, 0);
                due("THE TRACE of kind " + kind, x.trace(), (long) times * added[kind]);
            }
            x.rate(kind, 1);
            x.rate(kind + 6, 0);
            due("THE TRACE of what is refused", x.trace(), 3L * added[kind]);
        }
    }

    /** "IMAGES 0, 1", "STATE: none was kept" */
    private static void imagesAtEdges() {
        for (int image = 0; image < 2; image++) {
            DumplingPolls x = pot("h9;d0 9 0 0;");
            due("back(" + image + ")", x.back(image), STATE);
            due("keep(" + image + ") at 0", x.keep(image), 0);
            due("back(" + (1 - image) + ")", x.back(1 - image), STATE);
            minutes(x, 3);
            due("back(" + image + ")", x.back(image), 0);
            due("the minute", x.now(0), 0);
            minutes(x, 5);
            due("keep(" + image + ") anew", x.keep(image), 5);
            minutes(x, 1);
            due("back(" + (1 - image) + ")", x.back(1 - image), STATE);
            due("back(" + image + ") again", x.back(image), 5);
            due("back(" + image + ") once more", x.back(image), 5);
        }
    }

    /** "the minute, HEAT, DEPTHS, SIZES, LUMPS, what has RISEN" */
    private static void imagesKeepAll() {
        DumplingPolls x = pot("h9;g9;r25;d0 9 1 0;d0 8 1 0;d2 7 1 0;");
        String[] were = new String[2];
        x.drops(0);
        x.drops(1);
        minutes(x, 9);
        were[0] = now(x);
        due("keep(0)", x.keep(0), 9);
        minutes(x, 1);
        x.dips(0);
        x.drops(2);
        x.heats(1);
        x.skewers(1);
        were[1] = now(x);
        due("keep(1)", x.keep(1), 10);
        x.skewers(2);
        minutes(x, 3);
        x.drops(0);
        for (int i = 0; i < 4; i++) {
            int image = i / 2;
            due("back()", x.back(image), 9 + image);
            check.same("NOW behind back(" + image + ")", now(x), were[image]);
            minutes(x, 2);
            x.heats(4);
        }
    }

    private static String now(DumplingPolls x) {
        StringBuilder told = new StringBuilder();
        for (int d = 0; d < 3; d++) {
            for (int what = 0; what < 7; what++) {
                told.append(x.dumpling(d, what)).append(' ');
            }
        }
        for (int what = 0; what < 6; what++) {
            told.append(x.now(what)).append(' ');
        }
        return told.append(x.order(0)).append(x.order(1)).toString();
    }

    private static void imagesOfTheLastMinute() {
        DumplingPolls x = pot("h9;d0 9 0 0;");
        minutes(x, 98);
        x.keep(0);
        x.minute();
        due("keep(1) at 99", x.keep(1), 99);
        due("back(0)", x.back(0), 98);
        due("minute()", x.minute(), 0);
        due("minute() at 99", x.minute(), STATE);
        due("back(0)", x.back(0), 98);
        due("back(1)", x.back(1), 99);
        due("minute() at 99", x.minute(), STATE);
    }

    /** "nothing can be UNDONE behind back()" */
    private static void nothingUndoneBehindBack() {
        DumplingPolls x = pot("h9;d0 9 0 0;");
        x.drops(0);
        minutes(x, 3);
        x.keep(0);
        due("may be UNDONE behind keep()", x.now(6), 4);
        due("back(0), to NOW itself", x.back(0), 3);
        due("may be UNDONE", x.now(6), 0);
        due("undo()", x.undo(), STATE);
        minutes(x, 2);
        due("undo()", x.undo(), 1);
        due("undo()", x.undo(), 0);
        due("undo() to the image at most", x.undo(), STATE);
        due("the minute", x.now(0), 3);
        minutes(x, 2);
        due("back(1)", x.back(1), STATE);
        due("may be UNDONE behind what is refused", x.now(6), 2);
    }

    /** "Read anew: as told, nothing SEEN, IMAGES are gone, nothing can be UNDONE; THE TRACE goes on" */
    private static void readAnew() {
        for (String text : new String[] {"", "h3;", "d0 9 0 0;"}) {
            DumplingPolls x = Scene.busy();
            long trace = x.trace();
            x.clear();
            Scene.tell(x, text);
            due("pot() of " + text, x.pot(), text.isEmpty() ? 0 : 1);
            due("SEEN", x.count(4), 0);
            due("forget()", x.forget(), 0);
            due("back(0)", x.back(0), STATE);
            due("back(1)", x.back(1), STATE);
            due("may be UNDONE", x.now(6), 0);
            due("undo()", x.undo(), STATE);
            due("the minute", x.now(0), 0);
            due("HEAT", x.now(1), 3);
            due("GLUE", x.count(2), 1);
            due("ROOM", x.count(3), 20);
            due("THE TRACE", x.trace(), trace);
            due("weights(0, 0)", x.weights(0, 0), text.startsWith("d") ? 41 : BAD);
            due("keep(0)", x.keep(0), 0);
            due("back(1)", x.back(1), STATE);
        }
    }

    /** "0 DUMPLINGS, 1 HEAT as told, 2 GLUE, 3 ROOM, 4 SEEN, 5 letters of THE TEXT" */
    private static void counts() {
        DumplingPolls x = pot("h0;g0;r9;d0 1 0 0;");
        x.heats(9);
        int[] want = {1, 0, 0, 9, 0, 0};
        for (int what = 0; what < 6; what++) {
            due("count(" + what + ")", x.count(what), want[what]);
        }
        due("count(6)", x.count(6), BAD);
        due("count(-1)", x.count(-1), BAD);
    }
}
