/** "DUMPLINGS 0 .. (6 at most)": what holds of the others holds of the sixth, 5. */
public final class SixthTest {
    private static final Check check = new Check("SixthTest");
    private static final int NONE = Check.NONE;

    public static void main(String[] args) {
        allAlike();
        doneAndUndone();
        images();
        lateAndEarly();
        weights();
        check.end();
    }

    private static void due(String call, long got, long want) {
        check.due(call, got, want);
    }

    private static DumplingPolls pot(String text) {
        DumplingPolls x = new DumplingPolls();
        Scene.tell(x, text);
        due("pot() of " + text, x.pot() >= 0 ? 0 : 1, 0);
        due("so many", x.count(0), 6);
        return x;
    }

    /** All stick in the first minute, are at DEPTH 1 behind nine, of SIZE 18. */
    private static DumplingPolls nineMinutes() {
        DumplingPolls x = pot("h9;g9;r9;" + "d0 9 1 1;".repeat(6));
        for (int d = 0; d < 6; d++) {
            due("drops(" + d + ")", x.drops(d), d + 1);
        }
        check.minutes(x, 9);
        five(x, 18, 1, 63, NONE);
        return x;
    }

    private static void five(DumplingPolls x, int size, int depth, int lump, int risen) {
        due("SIZE of 5", x.dumpling(5, 1), size);
        due("DEPTH of 5", x.dumpling(5, 4), depth);
        due("LUMP of 5", x.dumpling(5, 5), lump);
        due("5 has RISEN in", x.dumpling(5, 6), risen);
    }

    private static void allAlike() {
        DumplingPolls x = pot("h9;g9;r9;" + "d0 9 1 1;".repeat(6));
        five(x, 9, NONE, 32, NONE);
        due("POTS", x.now(5), 6);
        due("DRY", x.now(2), 63);
        due("kept(5, 10)", x.kept(5, 10), 31);
        due("kept(5, 9)", x.kept(5, 9), NONE);
        due("kept(0, 10)", x.kept(0, 10), 0);
        due("party(6)", x.party(6), 63);
        due("power(5, 6)", x.power(5, 6), 1);
        due("power(5, 1)", x.power(5, 1), 1);
        due("power(5, 3)", x.power(5, 3), 10);
        x = pot("r18;" + "d0 9 1 1;".repeat(6));
        due("POTS of two each", x.now(5), 3);
        x = pot("r17;" + "d0 9 1 1;".repeat(5) + "d0 8 1 9;");
        due("POTS, 5 with one of the others", x.now(5), 5);
        due("party(9)", x.party(9), 32);
        due("power(5, 9)", x.power(5, 9), 32);
        due("power(0, 9)", x.power(0, 9), 0);
    }

    private static void doneAndUndone() {
        DumplingPolls x = nineMinutes();
        due("skewers(5)", x.skewers(5), 9);
        five(x, 9, 1, 32, NONE);
        due("LUMP of 0", x.dumpling(0, 5), 1);
        due("undo()", x.undo(), 9);
        five(x, 18, 1, 63, NONE);
        due("deep(5, 0)", x.deep(5, 0), 1);
        due("deep(5, 1)", x.deep(5, 1), 0);
        due("when(5)", x.when(5), 1);
        due("warm(5, 1)", x.warm(5, 1), 0);
        due("odds(5, 5, 0)", x.odds(5, 5, 0), 63);
        due("odds(5, 5, 1)", x.odds(5, 5, 1), 64);
        due("minute()", x.minute(), 6);
        five(x, 19, 0, 63, 10);
        due("have RISEN", x.now(4), 6);
        due("up", x.now(3), 63);
        due("order(5)", x.order(5), 5);
        due("PARSLEY", x.rate(2, 5), 13);
        due("CARROT", x.rate(4, 5), 18);
        due("dips(5)", x.dips(5), 1);
        five(x, 19, NONE, 32, 10);
        due("DRY", x.now(2), 32);
        due("up", x.now(3), 31);
        due("LUMP of 0", x.dumpling(0, 5), 31);
        due("undo()", x.undo(), 9);
        five(x, 19, 0, 63, 10);
        due("LUMP of 0", x.dumpling(0, 5), 63);
        due("dips(0)", x.dips(0), 1);
        due("LUMP of 5 without 0", x.dumpling(5, 5), 62);
        due("undo()", x.undo(), 9);
        due("undo()", x.undo(), 8);
        five(x, 18, 1, 63, NONE);
        due("have RISEN", x.now(4), 0);
    }

    private static void images() {
        DumplingPolls x = nineMinutes();
        due("keep(0)", x.keep(0), 9);
        due("minute()", x.minute(), 6);
        due("dips(5)", x.dips(5), 1);
        due("keep(1)", x.keep(1), 10);
        due("drops(5)", x.drops(5), 6);
        due("skewers(5)", x.skewers(5), 9);
        five(x, 9, 10, 32, 10);
        due("back(0)", x.back(0), 9);
        five(x, 18, 1, 63, NONE);
        due("LUMP of 0", x.dumpling(0, 5), 63);
        due("back(1)", x.back(1), 10);
        five(x, 19, NONE, 32, 10);
        due("drops(5)", x.drops(5), 6);
        due("deep(5, 9)", x.deep(5, 9), 1);
    }

    /** 0 of SIZE 13 is above its WEIGHT in the fourth minute and up behind 13, 5 is up behind ten. */
    private static void lateAndEarly() {
        String heavy = "d40 1 0 0;".repeat(4);
        DumplingPolls x = pot("h0;g0;d12 9 1 0;" + heavy + "d0 9 0 0;");
        due("kept(0, 13)", x.kept(0, 13), 32);
        due("kept(0, 12)", x.kept(0, 12), NONE);
        due("kept(5, 10)", x.kept(5, 10), 0);
        x = pot("h0;g0;d0 9 0 0;" + heavy + "d12 9 1 0;");
        due("kept(5, 13)", x.kept(5, 13), 1);
        due("drops(5)", x.drops(5), 1);
        check.minutes(x, 5);
        five(x, 14, 8, 32, NONE);
        due("deep(5, 2)", x.deep(5, 2), 6);
        due("when(5)", x.when(5), 8);
        due("warm(5, 8)", x.warm(5, 8), 0);
        due("warm(5, 7)", x.warm(5, 7), NONE);
        x = pot("r9;" + "d0 1 0 0;".repeat(5) + "d0 9 1 0;");
        due("POTS", x.now(5), 2);
        x.drops(5);
        x.minute();
        due("POTS, 5 is larger than ROOM", x.now(5), NONE);
    }

    private static void weights() {
        DumplingPolls x = pot("h0;" + "d0 1 0 0;".repeat(5) + "d12 9 1 0;");
        x.sees(5, 2, 9);
        due("how many", x.weights(5, 0), 1);
        due("the least", x.weights(5, 1), 10);
        due("the greatest", x.weights(5, 2), 10);
        due("look(5)", x.look(5), NONE);
        due("of 4", x.weights(4, 0), 41);
    }
}
