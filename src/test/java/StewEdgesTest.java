/** The document's sentences on what is done, and UNDONE, each at its edges. */
public final class StewEdgesTest {
    private static final Check check = new Check("StewEdgesTest");
    private static final int NONE = Check.NONE, STATE = Check.STATE;

    public static void main(String[] args) {
        atFirst();
        atFirstAnew();
        droppedFromDry();
        theLastMinute();
        risenInTheLastMinute();
        onlyThoseNotDry();
        thirtyAtMost();
        sizeAsItIsByThen();
        aboveAndBelowNothing();
        aboveAndBelowNothingOfALump();
        heatOnceForEach();
        depthsAtMost();
        glueOrLess();
        glueOfSizesByThen();
        depthsOfGlue();
        depthsByThen();
        dryOnesDoNotStick();
        lumpsByOne();
        stickOnlyInMinutes();
        risenOnce();
        heated();
        half();
        skeweredAnywhere();
        stuckAnew();
        dippedAtTheTop();
        dippedOfALump();
        tenAreKnown();
        manyRounds();
        eachIsUndoneWhole();
        countsOfTheAnswers();
        nothingElseIsUndone();
        check.end();
    }

    private static void due(String call, long got, long want) {
        check.due(call, got, want);
    }

    private static DumplingPolls pot(String text) {
        DumplingPolls x = new DumplingPolls();
        Scene.tell(x, text);
        due("pot() of " + text, x.pot() >= 0 ? 0 : 1, 0);
        return x;
    }

    private static void dropAll(DumplingPolls x) {
        for (int d = 0; d < x.count(0); d++) {
            x.drops(d);
        }
    }

    private static void minutes(DumplingPolls x, int many) {
        for (int i = 0; i < many; i++) {
            x.minute();
        }
    }

    private static void depth(DumplingPolls x, int d, int want) {
        due("DEPTH of " + d, x.dumpling(d, 4), want);
    }

    private static void lump(DumplingPolls x, int d, int want) {
        due("LUMP of " + d, x.dumpling(d, 5), want);
    }

    private static void size(DumplingPolls x, int d, int want) {
        due("SIZE of " + d, x.dumpling(d, 1), want);
    }

    private static void looksNew(DumplingPolls x) {
        due("the minute", x.now(0), 0);
        due("HEAT", x.now(1), 4);
        due("DRY", x.now(2), 63);
        due("up", x.now(3), 0);
        due("RISEN", x.now(4), 0);
        due("may be UNDONE", x.now(6), 0);
        for (int d = 0; d < 6; d++) {
            size(x, d, d + 1);
            depth(x, d, NONE);
            lump(x, d, 1 << d);
            due("RISEN in", x.dumpling(d, 6), NONE);
            due("order", x.order(d), NONE);
        }
    }

    /** "The minute is 0 at first, all DUMPLINGS are DRY, alone, of SIZE as told; none has RISEN." */
    private static void atFirst() {
        looksNew(pot("h4;d0 1 1 0;d0 2 1 0;d0 3 1 0;d0 4 1 0;d0 5 1 0;d0 6 1 0;"));
    }

    private static void atFirstAnew() {
        DumplingPolls x = pot("h9;g9;d0 1 1 0;d0 2 1 0;d0 3 1 0;d0 4 1 0;d0 5 1 0;d0 6 1 0;");
        dropAll(x);
        minutes(x, 12);
        lump(x, 0, 63);
        due("all have RISEN", x.now(4), 6);
        Scene.tell(x, "h4;d0 1 1 0;d0 2 1 0;d0 3 1 0;d0 4 1 0;d0 5 1 0;d0 6 1 0;");
        due("pot()", x.pot(), 7);
        looksNew(x);
    }

    /** "DROPPED: one that is DRY comes to DEPTH 10 (the bottom)", "STATE: it is not", "how many are not DRY" */
    private static void droppedFromDry() {
        DumplingPolls x = pot("h9;d0 1 0 0;d0 3 0 0;d0 5 0 0;d0 7 0 0;d0 9 0 0;d0 1 0 0;");
        for (int d = 5; d >= 0; d--) {
            due("drops(" + d + ")", x.drops(d), 6 - d);
            depth(x, d, 10);
            due("drops(" + d + ") at the bottom", x.drops(d), STATE);
        }
        due("none is DRY", x.now(2), 0);
        for (int depth = 9; depth >= 0; depth--) {
            x.minute();
            depth(x, 4, depth);
            due("drops(4) on its way", x.drops(4), STATE);
        }
        x.dips(4);
        due("drops(4) when DRY again", x.drops(4), 6);
        depth(x, 4, 10);
    }

    /** "it is one more, 99 at most", "STATE: it is 99" */
    private static void theLastMinute() {
        DumplingPolls x = pot("h9;d0 9 0 0;d40 1 0 0;");
        dropAll(x);
        for (int i = 1; i <= 99; i++) {
            due("minute() to " + i, x.minute(), i < 10 ? 0 : 1);
            due("the minute", x.now(0), i);
        }
        due("minute() at 99", x.minute(), STATE);
        due("the minute stays", x.now(0), 99);
        due("undo()", x.undo(), 9);
        due("the minute", x.now(0), 98);
        due("minute() at 98", x.minute(), 1);
        due("minute() at 99 again", x.minute(), STATE);
    }

    private static void risenInTheLastMinute() {
        DumplingPolls x = pot("h9;g0;d0 9 0 0;d0 5 0 0;");
        minutes(x, 89);
        x.drops(0);
        minutes(x, 1);
        x.drops(1);
        minutes(x, 9);
        due("RISEN in", x.dumpling(0, 6), 99);
        depth(x, 1, 1);
        due("RISEN in", x.dumpling(1, 6), NONE);
        due("order(0)", x.order(0), 0);
        due("order(1)", x.order(1), NONE);
        due("minute() at 99", x.minute(), STATE);
        depth(x, 1, 1);
        due("deep(1, 1)", x.deep(1, 1), 0);
        due("when(1)", x.when(1), 1);
    }

    /** "each that is not DRY is SWELL larger" */
    private static void onlyThoseNotDry() {
        DumplingPolls x = pot("h0;g0;d40 1 0 0;d40 1 1 0;d40 1 2 0;d40 1 3 0;d40 1 3 0;d0 9 3 0;");
        for (int d = 0; d < 4; d++) {
            x.drops(d);
        }
        minutes(x, 2);
        for (int d = 0; d < 4; d++) {
            size(x, d, 1 + 2 * d);
        }
        size(x, 4, 1);
        x.drops(4);
        size(x, 4, 1);
        minutes(x, 1);
        size(x, 4, 4);
        x.drops(5);
        minutes(x, 3);
        size(x, 5, 18);
        minutes(x, 7);
        due("up", x.now(3), 32);
        size(x, 5, 30);
        x.skewers(5);
        minutes(x, 1);
        size(x, 5, 18);
        x.dips(5);
        minutes(x, 1);
        size(x, 5, 18);
    }

    /** "SWELL larger (30 at most)" */
    private static void thirtyAtMost() {
        DumplingPolls x = pot("h0;g0;d40 9 3 0;d40 8 3 0;d40 7 3 0;d40 9 2 0;d40 8 2 0;d40 9 1 0;");
        dropAll(x);
        minutes(x, 7);
        size(x, 0, 30);
        size(x, 1, 29);
        size(x, 2, 28);
        minutes(x, 1);
        size(x, 0, 30);
        size(x, 1, 30);
        size(x, 2, 30);
        minutes(x, 2);
        size(x, 3, 29);
        size(x, 4, 28);
        minutes(x, 1);
        size(x, 3, 30);
        size(x, 4, 30);
        minutes(x, 9);
        size(x, 5, 29);
        minutes(x, 1);
        size(x, 5, 30);
        minutes(x, 30);
        for (int d = 0; d < 6; d++) {
            size(x, d, 30);
        }
        x.skewers(0);
        size(x, 0, 15);
        minutes(x, 5);
        size(x, 0, 30);
    }

    /** "SIZE (as it is by then)" */
    private static void sizeAsItIsByThen() {
        DumplingPolls x = pot("h0;g0;d6 5 2 0;d7 5 2 0;d8 5 2 0;d5 5 0 0;");
        dropAll(x);
        minutes(x, 1);
        depth(x, 0, 9);
        depth(x, 1, 10);
        depth(x, 2, 10);
        depth(x, 3, 10);
        minutes(x, 1);
        depth(x, 1, 9);
        depth(x, 2, 9);
    }

    /** "together above 0, all of it are 1 less deep [..], if below, 1 deeper": of just 0 neither. */
    private static void aboveAndBelowNothing() {
        for (int heat = 0; heat <= 9; heat++) {
            for (int weight = 1; weight <= 18; weight++) {
                DumplingPolls x = pot("h9;g0;d" + weight + " 9 0 0;d40 9 0 0;");
                x.drops(0);
                x.minute();
                int was = weight < 18 ? 9 : 10;
                depth(x, 0, was);
                x.heats(heat);
                x.minute();
                depth(x, 0, Math.min(10, was - Integer.signum(9 + heat - weight)));
            }
        }
    }

    /** Of three that stick, by 15 of SIZE, three times HEAT, and WEIGHT: 0, 1 above, 1 below. */
    private static void aboveAndBelowNothingOfALump() {
        String[] last = {"6", "5", "7"};
        int[] depths = {9, 8, 10};
        for (int i = 0; i < last.length; i++) {
            DumplingPolls x = pot("h9;g0;d6 5 0 0;d6 5 0 0;d" + last[i] + " 5 0 0;");
            dropAll(x);
            x.minute();
            lump(x, 2, 7);
            x.heats(1);
            x.minute();
            for (int d = 0; d < 3; d++) {
                depth(x, d, depths[i]);
                lump(x, d, 7);
            }
        }
    }

    /** "(HEAT once for each)" */
    private static void heatOnceForEach() {
        DumplingPolls x = pot("h9;g0;d12 1 0 0;d8 1 0 0;d4 1 0 0;d2 1 0 0;");
        x.drops(1);
        x.drops(2);
        x.drops(3);
        x.minute();
        lump(x, 1, 14);
        x.heats(4);
        x.minute();
        depth(x, 1, 8);
        x.undo();
        x.undo();
        x.heats(3);
        x.minute();
        depth(x, 1, 10);
        x.undo();
        x.undo();
        // 3 of SIZE and 14 of WEIGHT: of three times HEAT 4 is 1 above, 3 is 2 below.
        x.heats(4);
        minutes(x, 9);
        depth(x, 3, 0);
        depth(x, 1, 0);
    }

    /** "(0 at least)", "(10 at most)" */
    private static void depthsAtMost() {
        DumplingPolls x = pot("h9;g0;d0 9 0 0;d4 5 0 0;d14 7 0 0;");
        dropAll(x);
        minutes(x, 13);
        for (int d = 0; d < 2; d++) {
            depth(x, d, 0);
        }
        x.heats(0);
        minutes(x, 2);
        depth(x, 0, 0);
        depth(x, 1, 0);
        depth(x, 2, 2);
        minutes(x, 8);
        depth(x, 2, 10);
        minutes(x, 3);
        depth(x, 2, 10);
        depth(x, 1, 0);
        x.skewers(1);
        minutes(x, 4);
        depth(x, 1, 4);
        minutes(x, 8);
        depth(x, 1, 10);
        x.heats(9);
        minutes(x, 1);
        depth(x, 2, 9);
        depth(x, 1, 9);
    }

    /** "their SIZES (each its own) differ by GLUE or less" */
    private static void glueOrLess() {
        for (int glue = 0; glue <= 9; glue++) {
            for (int size = 1; size <= 9; size++) {
                DumplingPolls x = pot("h9;g" + glue + ";d0 5 0 0;d0 " + size + " 0 0;d0 9 0 0;");
                x.drops(0);
                x.drops(1);
                x.minute();
                boolean sticks = Math.abs(size - 5) <= glue;
                lump(x, 0, sticks ? 3 : 1);
                lump(x, 1, sticks ? 3 : 2);
                lump(x, 2, 4);
            }
        }
    }

    /** SIZES 1 and 10 stick by GLUE 9, 1 and 11 don't, and so the other way round. */
    private static void glueOfSizesByThen() {
        due("10 and 1", stuck("g9;", "d0 9 1 0;", "d0 1 0 0;"), 3);
        due("1 and 10", stuck("g9;", "d0 1 0 0;", "d0 9 1 0;"), 3);
        due("11 and 1", stuck("g9;", "d0 9 2 0;", "d0 1 0 0;"), 1);
        due("1 and 11", stuck("g9;", "d0 1 0 0;", "d0 9 2 0;"), 1);
        due("5 and 5, grown", stuck("g0;", "d0 2 3 0;", "d0 4 1 0;"), 3);
        due("5 and 5, at first", stuck("g0;", "d0 5 0 0;", "d0 5 1 0;"), 1);
        due("GLUE as at first", stuck("", "d0 5 0 0;", "d0 6 0 0;"), 3);
        due("GLUE as at first", stuck("", "d0 5 0 0;", "d0 7 0 0;"), 1);
    }

    private static int stuck(String glue, String one, String other) {
        DumplingPolls x = pot("h9;" + glue + one + other);
        dropAll(x);
        x.minute();
        return x.dumpling(0, 5);
    }

    /** "at one DEPTH of 1 to 9": two are made alike, and stick in the minute in which they come there. */
    private static void depthsOfGlue() {
        for (int depth = 9; depth >= 0; depth--) {
            DumplingPolls x = pot("h9;g0;d0 8 0 0;d0 4 0 0;");
            dropAll(x);
            minutes(x, 9 - depth);
            lump(x, 0, 1);
            x.skewers(0);
            lump(x, 0, 1);
            x.minute();
            depth(x, 0, depth);
            depth(x, 1, depth);
            lump(x, 0, depth == 0 ? 1 : 3);
            lump(x, 1, depth == 0 ? 2 : 3);
        }
        DumplingPolls x = pot("h0;g9;d4 4 0 0;d9 4 0 0;");
        dropAll(x);
        minutes(x, 3);
        depth(x, 0, 10);
        depth(x, 1, 10);
        lump(x, 0, 1);
        lump(x, 1, 2);
    }

    /** "Then two stick": by the DEPTHS that they have come to in this minute. */
    private static void depthsByThen() {
        DumplingPolls x = pot("h3;g9;d0 5 0 0;d8 5 0 0;");
        dropAll(x);
        x.minute();
        depth(x, 0, 9);
        depth(x, 1, 10);
        lump(x, 0, 1);
        // 0 sinks no more than to 9 while 1 comes up there.
        x = pot("h0;g9;d5 5 0 0;d0 6 0 0;");
        x.drops(0);
        x.heats(9);
        x.minute();
        x.heats(0);
        x.drops(1);
        lump(x, 0, 1);
        x.minute();
        depth(x, 0, 9);
        lump(x, 0, 3);
    }

    private static void dryOnesDoNotStick() {
        DumplingPolls x = pot("h9;g9;d0 5 0 0;d0 5 0 0;d0 5 0 0;");
        x.drops(2);
        minutes(x, 3);
        for (int d = 0; d < 3; d++) {
            lump(x, d, 1 << d);
        }
    }

    /** "not in one LUMP (those that became one in this minute, too)": LUMPS are one when one of each sticks to the other. */
    private static void lumpsByOne() {
        DumplingPolls x = pot("h9;g1;d0 9 0 0;d0 7 0 0;d0 5 0 0;d0 8 0 0;d0 6 0 0;d0 1 0 0;");
        dropAll(x);
        x.minute();
        for (int d = 0; d < 5; d++) {
            lump(x, d, 31);
        }
        lump(x, 5, 32);
        x = pot("h9;g1;d0 9 0 0;d0 3 0 0;d0 8 0 0;d0 4 0 0;");
        dropAll(x);
        x.minute();
        lump(x, 0, 5);
        lump(x, 1, 10);
        x.skewers(2);
        lump(x, 2, 4);
        x.minute();
        lump(x, 0, 1);
        lump(x, 2, 14);
        lump(x, 1, 14);
        lump(x, 3, 14);
        // 0 and 1, 3 and 4 stick at once; 3 cut to 3 is between 1 and 2, which are 2 and 4.
        x = pot("h9;g1;d0 1 0 0;d0 2 0 0;d0 4 0 0;d0 6 0 0;d0 7 0 0;");
        dropAll(x);
        x.minute();
        lump(x, 0, 3);
        lump(x, 2, 4);
        lump(x, 3, 24);
        x.skewers(3);
        lump(x, 4, 16);
        x.minute();
        lump(x, 0, 15);
        lump(x, 4, 16);
    }

    private static void stickOnlyInMinutes() {
        DumplingPolls x = pot("h9;g0;d0 8 0 0;d0 4 0 0;");
        dropAll(x);
        minutes(x, 3);
        x.skewers(0);
        lump(x, 0, 1);
        x.heats(1);
        lump(x, 0, 1);
        x.minute();
        lump(x, 0, 3);
    }

    /** "One that is at DEPTH 0 and had not RISEN has RISEN in that minute." */
    private static void risenOnce() {
        DumplingPolls x = pot("h9;g0;d0 9 0 0;d0 5 0 0;");
        x.drops(0);
        minutes(x, 9);
        due("not yet", x.dumpling(0, 6), NONE);
        x.minute();
        due("RISEN in", x.dumpling(0, 6), 10);
        x.minute();
        due("RISEN in, still up", x.dumpling(0, 6), 10);
        x.skewers(0);
        due("RISEN in, cut", x.dumpling(0, 6), 10);
        x.dips(0);
        due("RISEN in, DRY", x.dumpling(0, 6), 10);
        x.drops(0);
        due("RISEN in, DROPPED", x.dumpling(0, 6), 10);
        x.drops(1);
        minutes(x, 10);
        due("RISEN in, up again", x.dumpling(0, 6), 10);
        due("RISEN in", x.dumpling(1, 6), 21);
        due("have RISEN", x.now(4), 2);
        due("up", x.now(3), 3);
    }

    /** "HEATED: HEAT is n", "STATE: it is so" */
    private static void heated() {
        DumplingPolls x = new DumplingPolls();
        int was = 3;
        for (int n : new int[] {0, 9, 1, 8, 2, 3, 4}) {
            due("heats(" + n + ")", x.heats(n), was);
            due("heats(" + n + ") again", x.heats(n), STATE);
            due("HEAT", x.now(1), n);
            due("HEAT as told", x.count(1), 3);
            was = n;
        }
    }

    /** "its SIZE is half (cut, 1 at least)" */
    private static void half() {
        int[] halves = {0, 1, 1, 1, 2, 2, 3, 3, 4, 4};
        for (int size = 1; size <= 9; size++) {
            DumplingPolls x = pot("d0 " + size + " 0 0;");
            x.drops(0);
            due("skewers(0) of " + size, x.skewers(0), halves[size]);
            size(x, 0, halves[size]);
        }
        DumplingPolls x = pot("h0;d40 9 3 0;d40 8 3 0;");
        dropAll(x);
        minutes(x, 7);
        due("skewers(0) of 30", x.skewers(0), 15);
        due("skewers(1) of 29", x.skewers(1), 14);
        due("skewers(1) of 14", x.skewers(1), 7);
    }

    /** "one that is not DRY": at the bottom, on its way, and up. */
    private static void skeweredAnywhere() {
        DumplingPolls x = pot("h9;g0;d0 9 0 0;d0 5 0 0;");
        due("skewers(0), DRY", x.skewers(0), STATE);
        x.drops(0);
        due("skewers(0) at the bottom", x.skewers(0), 4);
        minutes(x, 1);
        due("skewers(0) at 9", x.skewers(0), 2);
        depth(x, 0, 9);
        minutes(x, 8);
        due("skewers(0) at 1", x.skewers(0), 1);
        minutes(x, 1);
        due("skewers(0) up", x.skewers(0), 1);
        depth(x, 0, 0);
        x.dips(0);
        due("skewers(0), DRY again", x.skewers(0), STATE);
        due("skewers(1), DRY", x.skewers(1), STATE);
    }

    /** "all of its LUMP are alone": till a minute at DEPTH 1 to 9 goes by. */
    private static void stuckAnew() {
        DumplingPolls x = pot("h9;g0;d0 6 0 0;d0 6 0 0;d0 6 0 0;d0 5 0 0;d0 5 0 0;");
        dropAll(x);
        minutes(x, 8);
        lump(x, 0, 7);
        x.skewers(1);
        lump(x, 0, 1);
        lump(x, 1, 2);
        lump(x, 2, 4);
        lump(x, 3, 24);
        x.minute();
        lump(x, 0, 5);
        lump(x, 1, 2);
        x.skewers(2);
        lump(x, 2, 4);
        x.minute();
        lump(x, 1, 2);
        lump(x, 2, 4);
        lump(x, 4, 24);
    }

    /** "DIPPED: one that is at DEPTH 0 comes out: it is DRY, alone (RISEN stays, SIZE too)", "how many are DRY" */
    private static void dippedAtTheTop() {
        DumplingPolls x = pot("h9;g0;d0 9 1 0;d0 5 1 0;");
        due("dips(0), DRY", x.dips(0), STATE);
        dropAll(x);
        for (int depth = 10; depth >= 1; depth--) {
            depth(x, 0, depth);
            due("dips(0) at " + depth, x.dips(0), STATE);
            x.minute();
        }
        due("dips(0)", x.dips(0), 1);
        due("dips(1)", x.dips(1), 2);
        depth(x, 0, NONE);
        size(x, 0, 19);
        size(x, 1, 15);
        due("RISEN in", x.dumpling(1, 6), 10);
        due("up", x.now(3), 0);
        due("have RISEN", x.now(4), 2);
        due("dips(0), DRY again", x.dips(0), STATE);
    }

    private static void dippedOfALump() {
        DumplingPolls x = pot("h9;g9;d0 5 0 0;d20 5 0 0;d0 5 0 0;d0 5 0 0;");
        x.drops(0);
        x.drops(2);
        minutes(x, 10);
        lump(x, 0, 5);
        due("dips(2)", x.dips(2), 3);
        lump(x, 0, 1);
        lump(x, 2, 4);
        x.drops(2);
        lump(x, 2, 4);
        x.drops(3);
        minutes(x, 10);
        lump(x, 2, 12);
        lump(x, 0, 1);
        due("dips(3)", x.dips(3), 2);
        lump(x, 2, 4);
        // Two of three that stick go on as one LUMP: 10 of SIZE and 10 of WEIGHT stay, and sink when cut.
        x = pot("h9;g0;d0 5 0 0;d0 5 0 0;d10 5 0 0;");
        dropAll(x);
        minutes(x, 10);
        lump(x, 1, 7);
        due("dips(1)", x.dips(1), 1);
        lump(x, 0, 5);
        lump(x, 1, 2);
        lump(x, 2, 5);
        x.heats(0);
        x.minute();
        depth(x, 0, 0);
        depth(x, 2, 0);
        x.skewers(0);
        x.minute();
        depth(x, 0, 0);
        depth(x, 2, 1);
    }

    /** "(10 are known, older ones are lost)" */
    private static void tenAreKnown() {
        for (int many = 0; many <= 23; many++) {
            DumplingPolls x = new DumplingPolls();
            minutes(x, many);
            int known = Math.min(10, many);
            due("may be UNDONE of " + many, x.now(6), known);
            for (int left = known - 1; left >= 0; left--) {
                due("undo() of " + many, x.undo(), left);
                due("the minute", x.now(0), many - known + left);
            }
            due("undo() of no more", x.undo(), STATE);
            due("the minute", x.now(0), many - known);
        }
    }

    /** Done and UNDONE in turns: what was UNDONE is not known any more, what is older is. */
    private static void manyRounds() {
        DumplingPolls x = new DumplingPolls();
        minutes(x, 25);
        x.undo();
        x.undo();
        x.undo();
        due("the minute", x.now(0), 22);
        x.heats(5);
        x.heats(6);
        due("may be UNDONE", x.now(6), 9);
        x.heats(7);
        x.heats(8);
        due("may be UNDONE", x.now(6), 10);
        int[] heats = {7, 6, 5, 3, 3, 3, 3, 3, 3, 3};
        for (int i = 0; i < 10; i++) {
            due("undo()", x.undo(), 9 - i);
            due("HEAT", x.now(1), heats[i]);
            due("the minute", x.now(0), i < 4 ? 22 : 25 - i);
        }
        due("undo() of no more", x.undo(), STATE);
        x.minute();
        due("may be UNDONE", x.now(6), 1);
        due("undo()", x.undo(), 0);
        due("the minute", x.now(0), 16);
    }

    /** All of NOW is as it was, of each of the five kinds of things done. */
    private static void eachIsUndoneWhole() {
        for (int i = 0; i < 10; i++) {
            DumplingPolls x = pot("h9;g9;r25;d0 9 1 0;d0 8 1 0;d2 7 1 0;");
            for (int j = 0; j <= i; j++) {
                minutes(x, j == 0 ? 3 : j == 4 ? 7 : 0);
                if (j < i) {
                    doOne(x, j);
                }
            }
            String was = withoutUndo(x);
            doOne(x, i);
            due("another NOW behind " + i, withoutUndo(x).equals(was) ? 1 : 0, 0);
            due("undo()", x.undo(), x.now(6));
            check.same("UNDONE " + i, withoutUndo(x), was);
        }
    }

    private static void doOne(DumplingPolls x, int i) {
        switch (i) {
            case 0: due("drops(0)", x.drops(0), 1); break;
            case 1: due("drops(1)", x.drops(1), 2); break;
            case 2: due("minute()", x.minute(), 0); break;
            case 3: due("heats(5)", x.heats(5), 9); break;
            case 4: due("minute()", x.minute(), 0); break;
            case 5: due("minute()", x.minute(), 2); break;
            case 6: due("dips(0)", x.dips(0), 2); break;
            case 7: due("skewers(1)", x.skewers(1), 9); break;
            case 8: due("drops(2)", x.drops(2), 2); break;
            default: due("minute()", x.minute(), 1); break;
        }
    }

    private static String withoutUndo(DumplingPolls x) {
        StringBuilder told = new StringBuilder();
        for (int d = 0; d < 3; d++) {
            for (int what = 0; what < 7; what++) {
                told.append(x.dumpling(d, what)).append(' ');
            }
        }
        for (int what = 0; what < 6; what++) {
            told.append(x.now(what)).append(' ');
        }
        return told.append(x.order(0)).append(x.order(1)).toString();
    }

    /** "how many are not DRY", "how many are at DEPTH 0 then", "how many are DRY", "how many more may be" */
    private static void countsOfTheAnswers() {
        DumplingPolls x = pot("h9;g0;d0 1 0 0;d0 3 0 0;d0 5 0 0;d0 7 0 0;d0 9 0 0;d40 1 0 0;");
        for (int d = 0; d < 6; d++) {
            due("drops(" + d + ")", x.drops(d), d + 1);
            due("may be UNDONE", x.now(6), d + 1);
        }
        minutes(x, 9);
        due("minute()", x.minute(), 5);
        for (int d = 0; d < 5; d++) {
            due("dips(" + d + ")", x.dips(d), d + 1);
        }
        due("minute()", x.minute(), 0);
        due("undo()", x.undo(), 9);
        due("drops(3)", x.drops(3), 2);
    }

    /** THE TEXT, what is SEEN, images, THE TRACE: not UNDONE, and not counted. */
    private static void nothingElseIsUndone() {
        DumplingPolls x = pot("h9;g0;d0 1 0 0;");
        x.minute();
        x.minute();
        x.sees(0, 1, 9);
        x.type('h');
        x.type('5');
        x.rate(1, 0);
        x.keep(1);
        due("pot() with a fault", x.pot(), -12);
        due("may be UNDONE", x.now(6), 2);
        due("undo()", x.undo(), 1);
        due("the minute", x.now(0), 1);
        due("SEEN", x.count(4), 1);
        due("letters", x.count(5), 2);
        due("THE TRACE", x.trace(), 11);
        x.forget();
        x.clear();
        due("may be UNDONE", x.now(6), 1);
        due("undo()", x.undo(), 0);
        due("SEEN", x.count(4), 0);
        due("letters", x.count(5), 0);
        due("the image has the minute", x.back(1), 2);
    }
}
