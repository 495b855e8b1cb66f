/** Promises 8 to 13: what is done, and undone. */
public final class DoneTest {
    private static final Check check = new Check("DoneTest");

    public static void main(String[] args) {
        drop();
        lift();
        swelling();
        sticking();
        lumpsMoveTogether();
        lastMinute();
        heat();
        skewer();
        dip();
        undone();
        undoneWhole();
        ten();
        check.end();
    }

    private static void due(String call, long got, long want) {
        check.due(call, got, want);
    }

    private static void drop() {
        DumplingPolls x = check.pot("d1 2 3 4;d1 2 3 4;", 2);
        due("drops(1)", x.drops(1), 1);
        due("drops(1) again", x.drops(1), Check.STATE);
        due("drops(0)", x.drops(0), 2);
        due("drops(2)", x.drops(2), Check.BAD);
        due("drops(-1)", x.drops(-1), Check.BAD);
        due("drops(6)", x.drops(6), Check.BAD);
        due("drops(max)", x.drops(Integer.MAX_VALUE), Check.BAD);
        due("alone at the bottom", x.dumpling(0, 5), 1);
        due("now(6)", x.now(6), 2);
    }

    /** SIZE and HEAT are 8 of 7 (goes up), 9 of 9 (stays), 7 of 8 (goes down). */
    private static void lift() {
        DumplingPolls x = check.pot("h3;g0;d7 5 0 0;d9 6 0 0;d8 4 0 0;", 5);
        for (int d = 0; d < 3; d++) {
            x.drops(d);
        }
        due("minute()", x.minute(), 0);
        due("goes up", x.dumpling(0, 4), 9);
        due("stays", x.dumpling(1, 4), 10);
        due("at the bottom", x.dumpling(2, 4), 10);
        x.heats(9);
        check.minutes(x, 4);
        due("higher", x.dumpling(0, 4), 5);
        due("up by the HEAT", x.dumpling(2, 4), 6);
        x.heats(3);
        check.minutes(x, 2);
        due("stays there", x.dumpling(1, 4), 6);
        due("deeper", x.dumpling(2, 4), 8);
        x.heats(9);
        for (int i = 0; i < 3; i++) {
            x.minute();
        }
        due("at the top soon", x.dumpling(0, 4), 0);
        due("minute() is how many are up", x.minute(), 1);
        check.minutes(x, 2);
        due("minute() of two", x.minute(), 2);
        due("no less deep than 0", x.dumpling(0, 4), 0);
    }

    private static void swelling() {
        DumplingPolls x = check.pot("h0;d40 9 3 0;d40 9 2 0;d11 9 1 0;", 4);
        x.drops(0);
        x.drops(2);
        check.minutes(x, 1);
        due("SWELL 3", x.dumpling(0, 1), 12);
        due("a DRY one", x.dumpling(1, 1), 9);
        due("SIZE as it is by then: 10 of 11", x.dumpling(2, 4), 10);
        check.minutes(x, 1);
        due("11 of 11", x.dumpling(2, 4), 10);
        check.minutes(x, 1);
        due("12 of 11", x.dumpling(2, 4), 9);
        check.minutes(x, 3);
        due("27", x.dumpling(0, 1), 27);
        check.minutes(x, 1);
        due("30", x.dumpling(0, 1), 30);
        check.minutes(x, 1);
        due("30 at most", x.dumpling(0, 1), 30);
    }

    private static void sticking() {
        DumplingPolls x = check.pot("h9;g2;d0 5 0 0;d0 8 0 0;d0 7 0 0;d0 1 0 0;", 6);
        for (int d = 0; d < 4; d++) {
            x.drops(d);
        }
        due("not at the bottom", x.dumpling(0, 5), 1);
        check.minutes(x, 1);
        due("5 and 7 and 8", x.dumpling(0, 5), 7);
        due("8 too", x.dumpling(1, 5), 7);
        due("7 too", x.dumpling(2, 5), 7);
        due("not 1", x.dumpling(3, 5), 8);
        x = check.pot("h9;g2;d0 5 0 0;d0 8 0 0;d40 7 0 0;", 5);
        x.drops(0);
        x.drops(1);
        x.drops(2);
        check.minutes(x, 10);
        due("3 apart", x.dumpling(0, 5), 1);
        due("at the bottom still", x.dumpling(2, 4), 10);
        x = check.pot("h9;g0;d0 5 0 0;d1 5 0 0;d1 5 0 0;", 5);
        x.drops(0);
        check.minutes(x, 1);
        x.drops(1);
        check.minutes(x, 9);
        due("not at one DEPTH", x.dumpling(0, 5), 1);
        x.drops(2);
        check.minutes(x, 1);
        due("not at DEPTH 0", x.dumpling(1, 5), 2);
        due("which both are at", x.now(3), 3);
        x = check.pot("h9;g0;d0 8 0 0;d0 4 0 0;", 4);
        x.drops(0);
        x.drops(1);
        check.minutes(x, 8);
        x.skewers(0);
        due("not yet", x.dumpling(0, 5), 1);
        check.minutes(x, 1);
        due("at DEPTH 1", x.dumpling(0, 5), 3);
        x = check.pot("h9;g0;d0 8 0 0;d0 4 0 0;", 4);
        x.drops(0);
        x.drops(1);
        check.minutes(x, 9);
        x.skewers(0);
        check.minutes(x, 1);
        due("alike at DEPTH 0 first", x.dumpling(0, 5), 1);
        x = check.pot("h9;g0;d12 5 0 0;d0 5 0 0;d12 4 1 0;", 5);
        x.drops(0);
        x.drops(2);
        check.minutes(x, 1);
        due("0 and 2", x.dumpling(0, 5), 5);
        x.heats(0);
        check.minutes(x, 1);
        x.drops(1);
        x.heats(9);
        check.minutes(x, 1);
        due("1 to 0, though not to 2", x.dumpling(0, 5), 7);
        due("all know", x.dumpling(1, 5) + x.dumpling(2, 5), 14);
        x = check.pot("h3;g0;d9 6 0 0;d9 6 0 0;", 4);
        x.drops(0);
        x.drops(1);
        check.minutes(x, 2);
        due("not at DEPTH 10", x.dumpling(0, 5), 1);
    }

    private static void lumpsMoveTogether() {
        DumplingPolls x = check.pot("h3;g1;d0 5 0 0;d12 5 0 0;", 4);
        x.drops(0);
        x.drops(1);
        check.minutes(x, 1);
        due("0 goes up", x.dumpling(0, 4), 9);
        due("1 doesn't", x.dumpling(1, 4), 10);
        x.heats(8);
        x.undo();
        x.heats(9);
        check.minutes(x, 1);
        x.skewers(0);
        due("0 is small", x.dumpling(0, 1), 2);
        due("0 is ahead", x.dumpling(0, 4), 8);
        due("1 is behind", x.dumpling(1, 4), 9);
        // 12 + 0 of WEIGHT on 2 SIZES of 5 and twice HEAT: a LUMP of both goes up by 2 of HEAT.
        x = check.pot("h9;g0;d0 5 0 0;d12 5 0 0;", 4);
        x.drops(0);
        x.drops(1);
        check.minutes(x, 1);
        due("one LUMP", x.dumpling(0, 5), 3);
        x.heats(2);
        check.minutes(x, 1);
        due("up together", x.dumpling(1, 4), 8);
        x.heats(1);
        check.minutes(x, 1);
        due("neither", x.dumpling(1, 4), 8);
        x.heats(0);
        check.minutes(x, 1);
        due("0 goes down with 1", x.dumpling(0, 4), 9);
        due("1 goes down", x.dumpling(1, 4), 9);
        check.minutes(x, 2);
        due("at the bottom", x.dumpling(0, 4), 10);
        due("in one LUMP there", x.dumpling(0, 5), 3);
        x.heats(9);
        check.minutes(x, 10);
        due("up in one minute", x.now(3), 3);
        due("in one LUMP at DEPTH 0", x.dumpling(1, 5), 3);
        due("RISEN in one minute", x.dumpling(0, 6), x.dumpling(1, 6));
    }

    private static void lastMinute() {
        DumplingPolls x = new DumplingPolls();
        for (int i = 1; i <= 99; i++) {
            due("minute() " + i, x.minute(), 0);
        }
        due("minute() 100", x.minute(), Check.STATE);
        due("now(0)", x.now(0), 99);
        due("undo()", x.undo(), 9);
        due("minute() 99 again", x.minute(), 0);
    }

    private static void heat() {
        DumplingPolls x = new DumplingPolls();
        due("heats(3)", x.heats(3), Check.STATE);
        due("heats(10)", x.heats(10), Check.BAD);
        due("heats(-1)", x.heats(-1), Check.BAD);
        due("now(6), all refused", x.now(6), 0);
        due("heats(0)", x.heats(0), 3);
        due("heats(9)", x.heats(9), 0);
        due("now(1)", x.now(1), 9);
        due("count(1)", x.count(1), 3);
    }

    private static void skewer() {
        DumplingPolls x = check.pot("h9;g9;d0 9 0 0;d0 9 0 0;d0 8 0 0;d0 1 0 0;", 6);
        for (int d = 0; d < 3; d++) {
            x.drops(d);
        }
        due("skewers(3)", x.skewers(3), Check.STATE);
        due("skewers(4)", x.skewers(4), Check.BAD);
        due("skewers(-1)", x.skewers(-1), Check.BAD);
        check.minutes(x, 1);
        due("LUMP", x.dumpling(2, 5), 7);
        due("skewers(1)", x.skewers(1), 4);
        due("LUMP of 0", x.dumpling(0, 5), 1);
        due("LUMP of 1", x.dumpling(1, 5), 2);
        due("LUMP of 2", x.dumpling(2, 5), 4);
        due("SIZE of 0", x.dumpling(0, 1), 9);
        due("SIZE of 1", x.dumpling(1, 1), 4);
        due("skewers(1) again", x.skewers(1), 2);
        due("skewers(1) to 1", x.skewers(1), 1);
        due("skewers(1), 1 at least", x.skewers(1), 1);
        due("DEPTH stays", x.dumpling(1, 4), 9);
    }

    private static void dip() {
        DumplingPolls x = check.pot("h9;g9;d0 9 1 0;d0 9 0 0;d0 9 0 0;d0 9 0 0;", 6);
        due("dips(0), DRY", x.dips(0), Check.STATE);
        due("dips(4)", x.dips(4), Check.BAD);
        due("dips(-1)", x.dips(-1), Check.BAD);
        for (int d = 0; d < 3; d++) {
            x.drops(d);
        }
        due("dips(0), at the bottom", x.dips(0), Check.STATE);
        check.minutes(x, 9);
        due("dips(0), at DEPTH 1", x.dips(0), Check.STATE);
        check.minutes(x, 1);
        due("one LUMP", x.dumpling(0, 5), 7);
        due("dips(0)", x.dips(0), 2);
        due("DRY", x.dumpling(0, 4), Check.NONE);
        due("alone", x.dumpling(0, 5), 1);
        due("SIZE stays", x.dumpling(0, 1), 19);
        due("RISEN stays", x.dumpling(0, 6), 10);
        due("the others stay in one LUMP", x.dumpling(1, 5), 6);
        due("dips(0) again", x.dips(0), Check.STATE);
        check.minutes(x, 1);
        due("no SWELL when DRY", x.dumpling(0, 1), 19);
        due("dips(2)", x.dips(2), 3);
        due("drops(0)", x.drops(0), 2);
        due("at the bottom anew", x.dumpling(0, 4), 10);
        check.minutes(x, 10);
        due("RISEN once", x.dumpling(0, 6), 10);
    }

    private static void undone() {
        DumplingPolls x = check.pot("h9;d0 9 1 0;d0 9 1 0;", 3);
        due("nothing to be UNDONE", x.undo(), Check.STATE);
        x.drops(0);
        x.drops(0);
        x.drops(5);
        x.heats(9);
        x.dips(0);
        x.skewers(1);
        due("none of the refused", x.now(6), 1);
        x.drops(1);
        x.heats(4);
        x.skewers(0);
        due("SIZE", x.dumpling(0, 1), 4);
        due("undo() of skewers(0)", x.undo(), 3);
        due("SIZE again", x.dumpling(0, 1), 9);
        due("undo() of heats(4)", x.undo(), 2);
        due("HEAT again", x.now(1), 9);
        due("undo() of drops(1)", x.undo(), 1);
        due("DRY again", x.now(2), 2);
        due("undo() of drops(0)", x.undo(), 0);
        due("both DRY", x.now(2), 3);
        due("no more", x.undo(), Check.STATE);
    }

    private static void undoneWhole() {
        DumplingPolls x = check.pot("h9;g9;d0 9 1 0;d0 9 1 0;", 4);
        x.drops(0);
        x.drops(1);
        check.minutes(x, 9);
        due("none is up", x.now(3), 0);
        x.sees(0, 1, 9);
        x.keep(0);
        check.minutes(x, 1);
        due("both are up", x.now(3), 3);
        x.dips(1);
        due("undo() of dips(1)", x.undo(), 9);
        due("one LUMP", x.dumpling(0, 5), 3);
        due("undo() of minute()", x.undo(), 8);
        due("minute", x.now(0), 9);
        due("none has RISEN", x.now(4), 0);
        due("SIZE", x.dumpling(0, 1), 18);
        due("DEPTH", x.dumpling(1, 4), 1);
        due("what is SEEN stays", x.count(4), 1);
        due("images stay", x.back(0), 9);
    }

    private static void ten() {
        DumplingPolls x = new DumplingPolls();
        for (int i = 1; i <= 13; i++) {
            x.minute();
            due("now(6)", x.now(6), Math.min(10, i));
        }
        for (int left = 9; left >= 5; left--) {
            due("undo()", x.undo(), left);
        }
        due("minute", x.now(0), 8);
        x.heats(1);
        due("now(6) of 6", x.now(6), 6);
        for (int left = 5; left >= 0; left--) {
            due("undo() on", x.undo(), left);
        }
        due("minute at last", x.now(0), 3);
        due("HEAT at last", x.now(1), 3);
        due("undo() of what is lost", x.undo(), Check.STATE);
    }
}
