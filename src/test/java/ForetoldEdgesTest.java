/** The document's sentences on what is foretold, each at its edges. */
public final class ForetoldEdgesTest {
    private static final Check check = new Check("ForetoldEdgesTest");
    private static final int NONE = Check.NONE, STATE = Check.STATE, BAD = Check.BAD;

    public static void main(String[] args) {
        deepNow();
        deepEachMinute();
        deepIfJustThese();
        deepBeyondTheLastMinute();
        whenNow();
        whenLast();
        whenFirst();
        warmLeast();
        warmMost();
        warmBehindSome();
        warmOfLumps();
        ordersByMinute();
        ordersByNumber();
        ordersOfSix();
        keptOfOneDry();
        keptInTime();
        keptInOneMinute();
        keptFewestThenLeast();
        keptOnlyDryOnes();
        keptOfThoseRisen();
        keptNone();
        partyEdges();
        partyFewestThenLeast();
        powerEdges();
        potsEdges();
        oddsEdges();
        oddsInLeastTerms();
        check.end();
    }

    private static void due(String call, long got, long want) {
        check.due(call, got, want);
    }

    private static DumplingPolls pot(String text) {
        DumplingPolls x = new DumplingPolls();
        Scene.tell(x, text);
        due("pot() of " + text, x.pot() >= 0 ? 0 : 1, 0);
        return x;
    }

    private static void dropAll(DumplingPolls x) {
        for (int d = 0; d < x.count(0); d++) {
            x.drops(d);
        }
    }

    private static void minutes(DumplingPolls x, int many) {
        for (int i = 0; i < many; i++) {
            x.minute();
        }
    }

    /** "DEEP of one behind n (0 .. 40) MINUTES: DEPTH; NONE (DRY)" */
    private static void deepNow() {
        DumplingPolls x = pot("h9;g0;d0 5 0 0;d0 9 0 0;");
        x.drops(0);
        for (int depth = 10; depth >= 0; depth--) {
            due("deep(0, 0)", x.deep(0, 0), depth);
            due("deep(0, 1)", x.deep(0, 1), Math.max(0, depth - 1));
            due("deep(0, 40)", x.deep(0, 40), 0);
            due("deep(1, 0), DRY", x.deep(1, 0), NONE);
            due("deep(1, 40), DRY", x.deep(1, 40), NONE);
            x.minute();
        }
        due("deep(0, 41)", x.deep(0, 41), BAD);
        due("deep(0, -1)", x.deep(0, -1), BAD);
        x.dips(0);
        due("deep(0, 0), DRY again", x.deep(0, 0), NONE);
        due("deep(0, 40), DRY again", x.deep(0, 40), NONE);
    }

    /** What is foretold is what comes, minute by minute, for all. */
    private static void deepEachMinute() {
        String text = "h5;g2;d12 5 1 0;d3 6 0 0;d30 9 2 0;d14 2 1 0;d21 8 1 0;d9 4 0 0;";
        DumplingPolls x = pot(text);
        DumplingPolls y = pot(text);
        dropAll(x);
        dropAll(y);
        for (int n = 0; n <= 40; n++) {
            for (int d = 0; d < 6; d++) {
                due("deep(" + d + ", " + n + ")", x.deep(d, n), y.dumpling(d, 4));
            }
            y.minute();
        }
    }

    /** "if just these are": DRY ones stay DRY, those that are not go with it and stick. */
    private static void deepIfJustThese() {
        DumplingPolls x = pot("h3;g0;d0 5 0 0;d20 5 0 0;d20 5 0 0;");
        x.drops(0);
        due("deep(0, 10), the others DRY", x.deep(0, 10), 0);
        x.heats(9);
        x.undo();
        x.drops(1);
        due("deep(0, 10), 1 at the bottom", x.deep(0, 10), 0);
        due("deep(1, 10)", x.deep(1, 10), 10);
        x = pot("h9;g0;d0 5 0 0;d20 6 0 0;d8 6 0 0;");
        dropAll(x);
        x.minute();
        x.heats(0);
        due("deep(2, 1), sinks", x.deep(2, 1), 10);
        due("deep(0, 5)", x.deep(0, 5), 4);
        x = pot("h9;g1;d0 5 0 0;d14 6 0 0;");
        dropAll(x);
        x.minute();
        due("one LUMP", x.dumpling(0, 5), 3);
        x.heats(0);
        due("deep(0, 1) of 11 less 14", x.deep(0, 1), 10);
        x.heats(1);
        due("deep(0, 1) of 13 less 14", x.deep(0, 1), 10);
        x.heats(2);
        due("deep(0, 1) of 15 less 14", x.deep(0, 1), 8);
    }

    /** "minutes beyond 99, too" */
    private static void deepBeyondTheLastMinute() {
        DumplingPolls x = pot("h0;g0;d29 1 1 0;d8 9 0 0;d7 9 0 0;d0 4 0 0;");
        minutes(x, 98);
        x.drops(0);
        x.drops(1);
        minutes(x, 1);
        due("minute()", x.minute(), STATE);
        due("deep(0, 36)", x.deep(0, 36), 1);
        due("deep(0, 37)", x.deep(0, 37), 0);
        due("when(0)", x.when(0), 37);
        due("warm(0, 40)", x.warm(0, 40), 0);
        due("warm(0, 36)", x.warm(0, 36), 1);
        due("warm(1, 8)", x.warm(1, 8), NONE);
        due("warm(1, 9)", x.warm(1, 9), 0);
        due("kept(2, 10)", x.kept(2, 10), NONE);
        due("kept(3, 40)", x.kept(3, 40), NONE);
        due("look(0)", x.look(0) > 0 ? 1 : 0, 1);
        x.undo();
        x.undo();
        due("kept(2, 9) at 98", x.kept(2, 9), NONE);
        due("kept(2, 10) at 98", x.kept(2, 10), 2);
        due("the minute", x.now(0), 98);
    }

    /** "behind how many (0 .. 40) MINUTES one that is not DRY is at DEPTH 0 first" */
    private static void whenNow() {
        DumplingPolls x = pot("h9;g0;d0 5 0 0;d40 1 0 0;");
        due("when(0), DRY", x.when(0), STATE);
        dropAll(x);
        for (int left = 10; left >= 0; left--) {
            due("when(0)", x.when(0), left);
            due("when(1)", x.when(1), NONE);
            x.minute();
        }
        due("when(0), still up", x.when(0), 0);
        x.dips(0);
        due("when(0), DRY again", x.when(0), STATE);
    }

    /** Of SIZE 1, SWELL 1, HEAT 0 one of WEIGHT w is up behind w + 9: 38 is the last there is. */
    private static void whenLast() {
        for (int weight = 1; weight <= 40; weight++) {
            DumplingPolls x = pot("h0;g0;d" + weight + " 1 1 0;");
            x.drops(0);
            int want = weight >= 30 ? NONE : Math.max(1, weight) + 9;
            due("when(0) of " + weight, x.when(0), want);
        }
    }

    /** "first": one that is up NOW is, though it sinks at once. */
    private static void whenFirst() {
        DumplingPolls x = pot("h9;g0;d14 6 0 0;");
        x.drops(0);
        minutes(x, 10);
        x.heats(0);
        due("when(0)", x.when(0), 0);
        due("deep(0, 1)", x.deep(0, 1), 1);
        x.minute();
        due("when(0), sinking", x.when(0), NONE);
        x.heats(9);
        due("when(0), rising", x.when(0), 1);
    }

    /** "the least HEAT (0 .. 9, from NOW on)" for each WEIGHT: of SIZE 5 it is WEIGHT less 4. */
    private static void warmLeast() {
        for (int weight = 0; weight <= 20; weight++) {
            for (int heat : new int[] {0, 5, 9}) {
                DumplingPolls x = pot("h" + heat + ";g0;d" + weight + " 5 0 0;");
                x.drops(0);
                int least = Math.max(0, weight - 4);
                due("warm(0, 10) of " + weight, x.warm(0, 10), least > 9 ? NONE : least);
                due("warm(0, 40) of " + weight, x.warm(0, 40), least > 9 ? NONE : least);
                due("warm(0, 9) of " + weight, x.warm(0, 9), NONE);
                due("HEAT", x.now(1), heat);
            }
        }
    }

    /** n is 1 to 40: one that is swelling is warm enough the sooner the warmer it is. */
    private static void warmMost() {
        DumplingPolls x = pot("h0;g0;d29 1 1 0;");
        x.drops(0);
        due("warm(0, 40)", x.warm(0, 40), 0);
        due("warm(0, 38)", x.warm(0, 38), 0);
        due("warm(0, 37)", x.warm(0, 37), 1);
        due("warm(0, 30)", x.warm(0, 30), 8);
        due("warm(0, 29)", x.warm(0, 29), 9);
        due("warm(0, 28)", x.warm(0, 28), NONE);
        due("warm(0, 1)", x.warm(0, 1), NONE);
        due("warm(0, 0)", x.warm(0, 0), BAD);
        due("warm(0, 41)", x.warm(0, 41), BAD);
    }

    /** "behind some of 0 to n MINUTES" */
    private static void warmBehindSome() {
        DumplingPolls x = pot("h9;g0;d10 5 0 0;");
        x.drops(0);
        minutes(x, 9);
        due("at DEPTH 1", x.warm(0, 1), 6);
        due("at DEPTH 1", x.warm(0, 40), 6);
        minutes(x, 1);
        due("at DEPTH 0, behind 0 MINUTES", x.warm(0, 1), 0);
        x.heats(0);
        due("at DEPTH 0, sinking", x.warm(0, 40), 0);
        minutes(x, 1);
        due("at DEPTH 1 again", x.warm(0, 1), 6);
        minutes(x, 1);
        due("at DEPTH 2, in 1", x.warm(0, 1), NONE);
        due("at DEPTH 2, in 2", x.warm(0, 2), 6);
    }

    /** More HEAT is not always better: by 1 the sinking one is met and pulls down, by 0 and 2 the two pass. */
    private static void warmOfLumps() {
        DumplingPolls x = pot("h9;g9;d17 9 0 0;d7 4 1 0;");
        x.drops(0);
        minutes(x, 10);
        x.heats(0);
        x.drops(1);
        due("warm(1, 9)", x.warm(1, 9), NONE);
        due("warm(1, 10)", x.warm(1, 10), 3);
        due("warm(1, 11)", x.warm(1, 11), 2);
        due("warm(1, 12)", x.warm(1, 12), 2);
        due("warm(1, 13)", x.warm(1, 13), 0);
        due("when(1)", x.when(1), 13);
        x.heats(1);
        due("when(1) by 1", x.when(1), 17);
        due("warm(1, 13), HEAT 1 NOW", x.warm(1, 13), 0);
        due("warm(1, 12), HEAT 1 NOW", x.warm(1, 12), 2);
    }

    /** "those that have RISEN, by the minute" */
    private static void ordersByMinute() {
        DumplingPolls x = pot("h9;g0;d0 1 0 0;d0 3 0 0;d0 5 0 0;d0 7 0 0;d0 9 0 0;d0 2 0 0;");
        int[] order = {3, 0, 5, 1, 4, 2};
        for (int d : order) {
            x.drops(d);
            x.minute();
        }
        minutes(x, 3);
        for (int many = 0; many <= 6; many++) {
            for (int k = 0; k < 6; k++) {
                due("order(" + k + ") of " + many, x.order(k), k < many ? order[k] : NONE);
            }
            due("have RISEN", x.now(4), many);
            x.minute();
        }
        for (int d = 0; d < 6; d++) {
            due("RISEN in", x.dumpling(order[d], 6), 10 + d);
        }
    }

    /** "of one minute by numbers" */
    private static void ordersByNumber() {
        DumplingPolls x = pot("h9;g0;d0 1 0 0;d0 3 0 0;d0 5 0 0;d0 7 0 0;");
        x.drops(3);
        x.drops(1);
        x.minute();
        x.drops(2);
        x.drops(0);
        minutes(x, 10);
        int[] order = {1, 3, 0, 2, NONE, NONE};
        for (int k = 0; k < 6; k++) {
            due("order(" + k + ")", x.order(k), order[k]);
        }
        x.dips(1);
        x.dips(0);
        for (int k = 0; k < 6; k++) {
            due("order(" + k + "), some DRY again", x.order(k), order[k]);
        }
    }

    /** "BAD (0 .. 5)": of 0 DUMPLINGS too. */
    private static void ordersOfSix() {
        DumplingPolls x = new DumplingPolls();
        for (int k = 0; k < 6; k++) {
            due("order(" + k + ")", x.order(k), NONE);
        }
        due("order(6)", x.order(6), BAD);
        due("order(-1)", x.order(-1), BAD);
    }

    /** "of all sets of DRY ones but it": of one alone just the empty one. */
    private static void keptOfOneDry() {
        DumplingPolls x = pot("h3;g0;d7 5 0 0;");
        due("kept(0, 10)", x.kept(0, 10), 0);
        due("kept(0, 40)", x.kept(0, 40), 0);
        due("kept(0, 9)", x.kept(0, 9), NONE);
        due("kept(0, 0)", x.kept(0, 0), BAD);
        due("kept(0, 41)", x.kept(0, 41), BAD);
        x.heats(2);
        due("kept(0, 40), too cold", x.kept(0, 40), NONE);
        x.heats(3);
        x.drops(0);
        due("kept(0, 10), not DRY", x.kept(0, 10), STATE);
        minutes(x, 10);
        x.dips(0);
        due("kept(0, 10), has RISEN", x.kept(0, 10), STATE);
    }

    /** "it would have RISEN in n MINUTES": in the last of 38 that can be, by the way of whenLast(). */
    private static void keptInTime() {
        for (int weight = 1; weight < 30; weight++) {
            DumplingPolls x = pot("h0;g0;d" + weight + " 1 1 0;");
            due("kept(0, in time) of " + weight, x.kept(0, weight + 9), 0);
            due("kept(0, too late) of " + weight, x.kept(0, weight + 8), NONE);
        }
        due("kept(0, 40) of 30", pot("h0;g0;d30 1 1 0;").kept(0, 40), NONE);
        DumplingPolls x = pot("h0;g0;d1 1 1 0;");
        due("kept(0, 1)", x.kept(0, 1), NONE);
    }

    /** "or in the same one with a lower number, ahead of it" */
    private static void keptInOneMinute() {
        DumplingPolls x = pot("h3;g0;d0 2 0 0;d0 4 0 0;d0 6 0 0;");
        due("kept(0, 10)", x.kept(0, 10), 0);
        due("kept(1, 10)", x.kept(1, 10), 1);
        due("kept(2, 10)", x.kept(2, 10), 3);
        x.drops(1);
        due("kept(0, 10), 1 in the same minute", x.kept(0, 10), 0);
        due("kept(2, 10), 1 ahead of it", x.kept(2, 10), NONE);
        x.minute();
        due("kept(0, 10), 1 a minute ahead", x.kept(0, 10), NONE);
    }

    /** "that of fewest, of several the least bits": 0 sinks to where 1, 2, 3 come up, and all go up by just above 0. */
    private static void keptFewestThenLeast() {
        DumplingPolls x = pot("h9;g0;d10 5 0 0;d2 5 0 0;d2 5 0 0;d0 4 0 0;");
        x.drops(0);
        minutes(x, 2);
        x.heats(0);
        due("0 is at 8", x.dumpling(0, 4), 8);
        due("kept(3, 10), 1 or 2 out", x.kept(3, 10), 2);
        due("kept(1, 10), all three go up", x.kept(1, 10), NONE);
        x = pot("h9;g0;d10 5 0 0;d4 5 0 0;d4 5 0 0;d0 5 0 0;d0 4 0 0;");
        x.drops(0);
        minutes(x, 2);
        x.heats(0);
        due("kept(4, 10), 3 out, or 1 and 2", x.kept(4, 10), 8);
        x.drops(3);
        due("kept(4, 10), 3 on its way, 1 and 2 out", x.kept(4, 10), 6);
        x = pot("h5;g0;d9 6 0 0;d40 5 0 0;d9 5 0 0;d3 4 0 0;");
        due("kept(3, 10), both ahead of it", x.kept(3, 10), 5);
        x = pot("h5;g9;d9 5 0 0;d9 5 0 0;d3 5 0 0;d0 1 0 0;");
        due("kept(3, 10), three ahead of it", x.kept(3, 10), 7);
        due("kept(0, 10), none ahead of it", x.kept(0, 10), 0);
    }

    /** Those that are not DRY can't be kept out. */
    private static void keptOnlyDryOnes() {
        DumplingPolls x = pot("h3;g0;d7 5 0 0;d0 3 0 0;d0 9 0 0;");
        x.drops(0);
        due("kept(1, 10), 0 is on its way", x.kept(1, 10), NONE);
        x.undo();
        due("kept(1, 10), 0 is DRY", x.kept(1, 10), 1);
        due("kept(2, 10), 0 and 1 are DRY", x.kept(2, 10), 3);
        x.drops(2);
        due("kept(1, 10), 2 in the same minute", x.kept(1, 10), 1);
        x.minute();
        due("kept(1, 10), 2 a minute ahead", x.kept(1, 10), NONE);
    }

    /** "none other having RISEN from NOW on": one that has RISEN till then is not ahead, though it can stick. */
    private static void keptOfThoseRisen() {
        DumplingPolls x = pot("h9;g0;d12 5 0 0;d0 4 0 0;d0 5 0 0;");
        x.drops(0);
        minutes(x, 10);
        due("0 is up", x.now(3), 1);
        due("kept(2, 10), 1 in the same minute", x.kept(2, 10), 2);
        x.dips(0);
        due("kept(1, 10)", x.kept(1, 10), 0);
        due("kept(2, 10), 0 has RISEN", x.kept(2, 10), 2);
        x.heats(3);
        due("kept(2, 10), 0 at the bottom", x.kept(2, 10), 2);
        x.heats(7);
        x.drops(0);
        due("kept(2, 10), 0 at the bottom", x.kept(2, 10), 2);
    }

    private static void keptNone() {
        DumplingPolls x = pot("h0;g0;d9 9 0 0;d0 9 0 0;d40 9 3 0;");
        due("kept(0, 40), it just stays", x.kept(0, 40), NONE);
        due("kept(1, 40)", x.kept(1, 40), 0);
        due("kept(2, 40), never up", x.kept(2, 40), NONE);
    }

    /** "PARTY by q (1 .. 54): of all sets of DUMPLINGS of q SEATS together, or more" */
    private static void partyEdges() {
        DumplingPolls x = pot("d0 1 0 9;d0 1 0 9;d0 1 0 9;d0 1 0 9;d0 1 0 9;d0 1 0 9;");
        for (int q = 1; q <= 54; q++) {
            due("party(" + q + ")", x.party(q), (1 << (q + 8) / 9) - 1);
        }
        due("party(55)", x.party(55), BAD);
        due("party(0)", x.party(0), BAD);
        x = pot("d0 1 0 9;d0 1 0 9;d0 1 0 9;d0 1 0 9;d0 1 0 9;d0 1 0 8;");
        due("party(53)", x.party(53), 63);
        due("party(54)", x.party(54), NONE);
        x = pot("d0 1 0 0;d0 1 0 0;");
        due("party(1) of no SEATS", x.party(1), NONE);
        x = pot("d0 1 0 0;d0 1 0 1;");
        due("party(1) of one seat", x.party(1), 2);
        due("party(2) of one seat", x.party(2), NONE);
        due("party(1) of no DUMPLINGS", new DumplingPolls().party(1), NONE);
        due("party(54) of no DUMPLINGS", new DumplingPolls().party(54), NONE);
    }

    /** "that of fewest, of several the least bits" */
    private static void partyFewestThenLeast() {
        DumplingPolls x = pot("d0 1 0 2;d0 1 0 2;d0 1 0 2;d0 1 0 6;d0 1 0 6;d0 1 0 5;");
        due("party(2)", x.party(2), 1);
        due("party(3)", x.party(3), 8);
        due("party(6), one rather than three", x.party(6), 8);
        due("party(7)", x.party(7), 9);
        due("party(8)", x.party(8), 9);
        due("party(9)", x.party(9), 24);
        due("party(11)", x.party(11), 24);
        due("party(12)", x.party(12), 24);
        due("party(13)", x.party(13), 25);
        due("party(14)", x.party(14), 25);
        due("party(15)", x.party(15), 56);
        due("party(17)", x.party(17), 56);
        due("party(18)", x.party(18), 57);
        due("party(20)", x.party(20), 59);
        due("party(23)", x.party(23), 63);
        due("party(24)", x.party(24), NONE);
        // Of 2, 2, 2, 6 and 5 SEATS 16 sets have 6 to 11.
        x.drops(3);
        x.drops(0);
        x.minute();
        due("party(7), whether DRY or not", x.party(7), 9);
        due("party(6), whether DRY or not", x.party(6), 8);
        due("power(4, 12), whether DRY or not", x.power(4, 12), 16);
        x.undo();
        x.undo();
        x.undo();
        due("power(4, 12), all DRY", x.power(4, 12), 16);
    }

    /** "how many have less than q SEATS, and q or more with it" */
    private static void powerEdges() {
        DumplingPolls x = pot("d0 1 0 4;d0 1 0 3;");
        int[] first = {1, 1, 1, 2, 1, 1, 1, 0};
        int[] second = {1, 1, 1, 0, 1, 1, 1, 0};
        for (int q = 1; q <= 8; q++) {
            due("power(0, " + q + ")", x.power(0, q), first[q - 1]);
            due("power(1, " + q + ")", x.power(1, q), second[q - 1]);
        }
        x = pot("d0 1 0 9;d0 1 0 9;d0 1 0 9;d0 1 0 9;d0 1 0 9;d0 1 0 9;");
        int[] of = {1, 5, 10, 10, 5, 1};
        for (int q = 1; q <= 54; q++) {
            due("power(5, " + q + ")", x.power(5, q), of[(q - 1) / 9]);
        }
        due("power(0, 55)", x.power(0, 55), BAD);
        due("power(0, 0)", x.power(0, 0), BAD);
        x = pot("d0 1 0 0;d0 1 0 5;d0 1 0 0;");
        for (int q = 1; q <= 54; q++) {
            due("power(0, " + q + ") of no SEATS", x.power(0, q), 0);
            due("power(1, " + q + ")", x.power(1, q), q <= 5 ? 4 : 0);
        }
    }

    /** "SIZES as NOW together no more than ROOM in each; NONE (one is larger than ROOM)" */
    private static void potsEdges() {
        due("of no DUMPLINGS", new DumplingPolls().now(5), 0);
        due("of just ROOM", pot("r9;d0 9 0 0;").now(5), 1);
        for (int room = 9; room <= 40; room++) {
            DumplingPolls x = pot("r" + room + ";d0 9 0 0;d0 9 0 0;d0 9 0 0;d0 9 0 0;d0 9 0 0;d0 9 0 0;");
            int each = room / 9;
            due("six of 9 in " + room, x.now(5), (6 + each - 1) / each);
            x = pot("r" + room + ";h0;d40 9 3 0;d40 1 0 0;");
            x.drops(0);
            for (int size = 9; size <= 30; size += 3) {
                int want = size > room ? NONE : size == room ? 2 : 1;
                due(size + " and 1 in " + room, x.now(5), want);
                x.minute();
            }
        }
        DumplingPolls x = pot("r29;h0;d40 8 2 0;");
        x.drops(0);
        minutes(x, 10);
        due("28 in 29", x.now(5), 1);
        x.minute();
        due("30 in 29", x.now(5), NONE);
        x.skewers(0);
        due("15 in 29", x.now(5), 1);
        due("by GLUE not", pot("r10;g9;d0 5 0 0;d0 6 0 0;").now(5), 2);
        due("ROOM as at first", pot("d0 9 0 0;d0 9 0 0;d0 2 0 0;").now(5), 1);
        due("ROOM as at first", pot("d0 9 0 0;d0 9 0 0;d0 3 0 0;").now(5), 2);
    }

    private static void odds(DumplingPolls x, int sink, int k, int upper, int lower) {
        due("odds(" + sink + ", " + k + ", 0)", x.odds(sink, k, 0), upper);
        due("odds(" + sink + ", " + k + ", 1)", x.odds(sink, k, 1), lower);
    }

    /** "each that is not DRY sinks by x of 10, for itself: that k at most do" */
    private static void oddsEdges() {
        for (int wet = 0; wet <= 6; wet++) {
            DumplingPolls x = pot("d0 1 0 0;d0 1 0 0;d0 1 0 0;d0 1 0 0;d0 1 0 0;d0 1 0 0;");
            for (int d = 0; d < wet; d++) {
                x.drops(5 - d);
            }
            for (int k = 0; k <= 6; k++) {
                odds(x, 0, k, 1, 1);
                odds(x, 10, k, k >= wet ? 1 : 0, 1);
                if (k >= wet) {
                    odds(x, 1, k, 1, 1);
                    odds(x, 7, k, 1, 1);
                }
            }
            due("odds(11, 0, 0)", x.odds(11, 0, 0), BAD);
            due("odds(0, 7, 0)", x.odds(0, 7, 0), BAD);
            due("odds(0, 0, 2)", x.odds(0, 0, 2), BAD);
        }
        odds(new DumplingPolls(), 10, 0, 1, 1);
    }

    /** "a fraction", "in least terms" */
    private static void oddsInLeastTerms() {
        DumplingPolls x = pot("h9;g9;d0 5 0 0;d0 5 0 0;d0 5 0 0;d0 5 0 0;d0 5 0 0;d0 5 0 0;");
        x.drops(5);
        for (int sink = 1; sink <= 9; sink++) {
            int common = sink == 5 ? 5 : sink % 2 == 0 ? 2 : 1;
            odds(x, sink, 0, (10 - sink) / common, 10 / common);
        }
        x.drops(0);
        odds(x, 1, 0, 81, 100);
        odds(x, 1, 1, 99, 100);
        odds(x, 5, 0, 1, 4);
        odds(x, 5, 1, 3, 4);
        odds(x, 4, 1, 21, 25);
        odds(x, 8, 0, 1, 25);
        dropAll(x);
        odds(x, 5, 0, 1, 64);
        odds(x, 5, 1, 7, 64);
        odds(x, 5, 2, 11, 32);
        odds(x, 5, 4, 57, 64);
        odds(x, 5, 5, 63, 64);
        odds(x, 9, 0, 1, 1000000);
        odds(x, 1, 5, 999999, 1000000);
        odds(x, 2, 1, 2048, 3125);
        // LUMPS do not matter, nor DEPTHS.
        minutes(x, 10);
        due("one LUMP", x.dumpling(0, 5), 63);
        odds(x, 5, 1, 7, 64);
        x.dips(3);
        odds(x, 5, 0, 1, 32);
    }
}
