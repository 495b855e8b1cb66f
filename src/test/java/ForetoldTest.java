/** Promises 14 to 20: what is foretold. */
public final class ForetoldTest {
    private static final Check check = new Check("ForetoldTest");

    public static void main(String[] args) {
        deep();
        beyondTheLastMinute();
        when();
        warm();
        kept();
        keptOfThoseRisen();
        party();
        power();
        odds();
        nothingIsChanged();
        check.end();
    }

    private static void due(String call, long got, long want) {
        check.due(call, got, want);
    }

    private static void deep() {
        DumplingPolls x = check.pot("h0;g0;d11 9 1 0;d40 1 0 0;d0 1 0 0;", 5);
        x.drops(0);
        x.drops(1);
        due("deep(0, 0)", x.deep(0, 0), 10);
        due("deep(0, 2), SIZE 11", x.deep(0, 2), 10);
        due("deep(0, 3), SIZE 12", x.deep(0, 3), 9);
        due("deep(0, 12)", x.deep(0, 12), 0);
        due("deep(0, 11)", x.deep(0, 11), 1);
        due("deep(0, 40)", x.deep(0, 40), 0);
        due("deep(1, 40)", x.deep(1, 40), 10);
        due("deep(2, 0), DRY", x.deep(2, 0), Check.NONE);
        due("deep(2, 40), DRY", x.deep(2, 40), Check.NONE);
        due("deep(0, 41)", x.deep(0, 41), Check.BAD);
        due("deep(0, -1)", x.deep(0, -1), Check.BAD);
        due("deep(3, 0)", x.deep(3, 0), Check.BAD);
        due("deep(-1, 0)", x.deep(-1, 0), Check.BAD);
        x = check.pot("h9;g0;d0 5 0 0;d28 5 0 0;", 4);
        x.drops(0);
        check.minutes(x, 2);
        x.drops(1);
        x.undo();
        x.undo();
        x.undo();
        x.drops(1);
        x.heats(0);
        due("deep alone", x.deep(0, 5), 5);
    }

    private static void beyondTheLastMinute() {
        DumplingPolls x = check.pot("h3;d0 5 0 0;d0 9 0 0;", 3);
        check.minutes(x, 95);
        x.drops(0);
        due("deep(0, 10) at 95", x.deep(0, 10), 0);
        due("when(0) at 95", x.when(0), 10);
        due("warm(0, 10) at 95", x.warm(0, 10), 0);
        due("kept(1, 10) at 95", x.kept(1, 10), Check.NONE);
        check.minutes(x, 4);
        due("minute()", x.minute(), Check.STATE);
        due("deep(0, 5) at 99", x.deep(0, 5), 1);
        due("when(0) at 99", x.when(0), 6);
        due("kept(1, 10) at 99", x.kept(1, 10), Check.NONE);
    }

    private static void when() {
        DumplingPolls x = check.pot("h3;g0;d0 1 0 0;d33 9 1 0;d40 7 0 0;d0 2 0 0;", 6);
        due("when(0), DRY", x.when(0), Check.STATE);
        due("when(4)", x.when(4), Check.BAD);
        due("when(-1)", x.when(-1), Check.BAD);
        for (int d = 0; d < 3; d++) {
            x.drops(d);
        }
        due("when(0)", x.when(0), 10);
        due("when(1), from SIZE 31 on: never", x.when(1), Check.NONE);
        due("when(2)", x.when(2), Check.NONE);
        check.minutes(x, 10);
        due("when(0) is 0", x.when(0), 0);
        x = check.pot("h3;g0;d31 9 1 0;d32 9 1 0;", 4);
        x.drops(0);
        x.drops(1);
        due("SIZE 29 behind 20", x.when(0), 29);
        due("SIZE 30 behind 21", x.when(1), 30);
        x = check.pot("h1;d30 1 1 0;d9 1 0 0;", 3);
        x.drops(0);
        due("SIZE 30 behind 29: behind 38", x.when(0), 38);
        x = check.pot("h0;d30 1 1 0;d29 1 1 0;", 3);
        x.drops(0);
        due("never", x.when(0), Check.NONE);
        x.drops(1);
        due("SIZE 30 behind 29", x.when(1), 38);
        x = check.pot("h0;d29 1 1 0;d28 1 1 0;", 3);
        x.drops(0);
        check.minutes(x, 1);
        x.skewers(0);
        due("cut: behind 38 again", x.when(0), 38);
        x = check.pot("h2;g0;d31 1 1 0;", 3);
        x.drops(0);
        x.heats(0);
        x.heats(1);
        due("SIZE 31 is not", x.when(0), Check.NONE);
    }

    private static void warm() {
        DumplingPolls x = check.pot("h3;g0;d7 5 0 0;d14 5 0 0;d0 1 0 0;d13 5 0 0;", 6);
        due("warm(0, 10), DRY", x.warm(0, 10), Check.STATE);
        x.drops(0);
        x.drops(1);
        x.drops(3);
        due("warm(0, 9)", x.warm(0, 9), Check.NONE);
        due("warm(0, 10)", x.warm(0, 10), 3);
        due("warm(1, 40)", x.warm(1, 40), Check.NONE);
        due("warm(3, 40)", x.warm(3, 40), 9);
        due("warm(0, 0)", x.warm(0, 0), Check.BAD);
        due("warm(0, 41)", x.warm(0, 41), Check.BAD);
        due("warm(4, 1)", x.warm(4, 1), Check.BAD);
        due("warm(-1, 1)", x.warm(-1, 1), Check.BAD);
        due("warm(2, 0), BAD ahead of STATE", x.warm(2, 0), Check.BAD);
        check.minutes(x, 10);
        due("at DEPTH 0 NOW", x.warm(0, 1), 0);
        check.minutes(x, 1);
        x.heats(0);
        check.minutes(x, 1);
        due("one deep", x.dumpling(0, 4), 1);
        due("by one minute", x.warm(0, 1), 3);
        due("HEAT stays", x.now(1), 0);
        x = check.pot("h9;g0;d0 5 0 0;d15 5 0 0;d13 5 0 0;", 5);
        x.drops(0);
        x.drops(2);
        check.minutes(x, 1);
        due("one LUMP", x.dumpling(0, 5), 5);
        due("warm(0, 9) of a LUMP: 10 and 2 n of 13", x.warm(0, 9), 2);
    }

    private static void kept() {
        DumplingPolls x = check.pot("h3;g0;d7 5 0 0;d6 5 0 0;d0 1 1 0;d12 9 1 0;", 6);
        due("kept(0, 10), the lower number", x.kept(0, 10), 0);
        due("kept(1, 10), sticks to 0 and 2 is later in number", x.kept(1, 10), 1);
        due("kept(2, 10)", x.kept(2, 10), 3);
        due("kept(3, 10)", x.kept(3, 10), 7);
        due("kept(3, 9)", x.kept(3, 9), Check.NONE);
        due("kept(0, 9)", x.kept(0, 9), Check.NONE);
        due("kept(0, 1)", x.kept(0, 1), Check.NONE);
        due("kept(0, 40)", x.kept(0, 40), 0);
        due("kept(0, 0)", x.kept(0, 0), Check.BAD);
        due("kept(0, 41)", x.kept(0, 41), Check.BAD);
        due("kept(4, 1)", x.kept(4, 1), Check.BAD);
        due("kept(-1, 1)", x.kept(-1, 1), Check.BAD);
        x.drops(0);
        due("kept(0, 10), not DRY", x.kept(0, 10), Check.STATE);
        due("kept(0, 0), BAD ahead of STATE", x.kept(0, 0), Check.BAD);
        due("kept(1, 40): 0 is ahead", x.kept(1, 40), Check.NONE);
        // 0 and 1 stick at DEPTH 9, and 1 is heavier than both can lift.
        x = check.pot("h9;g9;d0 1 0 0;d40 9 3 0;d16 8 0 0;d16 8 0 0;", 6);
        due("all of them may be DROPPED", x.kept(0, 40), 0);
        due("of several the least bits", x.kept(3, 40), 5);
        // 0 is first but where it sticks to a heavy one; keeping 1 out or 2 out helps.
        x = check.pot("h2;g0;d5 4 0 0;d8 4 1 0;d7 4 0 0;d1 1 0 0;", 6);
        due("kept(3, 20)", x.kept(3, 20), 1);
        due("kept(1, 20)", x.kept(1, 20), 9);
    }

    private static void keptOfThoseRisen() {
        DumplingPolls x = check.pot("h3;g0;d0 9 0 0;d0 5 0 0;d4 3 0 0;", 5);
        x.drops(0);
        check.minutes(x, 10);
        x.dips(0);
        due("kept(0, 10), has RISEN", x.kept(0, 10), Check.STATE);
        due("0 has RISEN ahead of NOW", x.kept(1, 10), 0);
        due("1 has not", x.kept(2, 10), 2);
        x.drops(1);
        due("1 is on its way", x.kept(2, 10), Check.NONE);
        check.minutes(x, 9);
        due("and ahead", x.kept(2, 40), Check.NONE);
        check.minutes(x, 1);
        due("no more", x.kept(2, 10), 0);
    }

    private static void party() {
        DumplingPolls x = check.pot("d0 1 0 3;d0 1 0 4;d0 1 0 5;d0 1 0 0;d0 1 0 5;", 5);
        due("party(1)", x.party(1), 1);
        due("party(4)", x.party(4), 2);
        due("party(5)", x.party(5), 4);
        due("party(6)", x.party(6), 3);
        due("party(8)", x.party(8), 5);
        due("party(10)", x.party(10), 20);
        due("party(12)", x.party(12), 7);
        due("party(17)", x.party(17), 23);
        due("party(18)", x.party(18), Check.NONE);
        due("party(54)", x.party(54), Check.NONE);
        due("party(55)", x.party(55), Check.BAD);
        due("party(0)", x.party(0), Check.BAD);
        x = check.pot("d0 1 0 9;d0 1 0 9;d0 1 0 9;d0 1 0 9;d0 1 0 9;d0 1 0 9;", 6);
        due("party(54) of all", x.party(54), 63);
        due("party(46)", x.party(46), 63);
        due("party(45)", x.party(45), 31);
        due("of none", new DumplingPolls().party(1), Check.NONE);
    }

    private static void power() {
        DumplingPolls x = check.pot("d0 1 0 5;d0 1 0 3;d0 1 0 2;d0 1 0 0;", 4);
        due("power(0, 6)", x.power(0, 6), 6);
        due("power(1, 6)", x.power(1, 6), 2);
        due("power(2, 6)", x.power(2, 6), 2);
        due("power(3, 6)", x.power(3, 6), 0);
        due("power(0, 5)", x.power(0, 5), 6);
        due("power(0, 1)", x.power(0, 1), 2);
        due("power(0, 10)", x.power(0, 10), 2);
        due("power(0, 11)", x.power(0, 11), 0);
        due("power(0, 54)", x.power(0, 54), 0);
        due("power(0, 55)", x.power(0, 55), Check.BAD);
        due("power(0, 0)", x.power(0, 0), Check.BAD);
        due("power(4, 1)", x.power(4, 1), Check.BAD);
        due("power(-1, 1)", x.power(-1, 1), Check.BAD);
        x.drops(0);
        due("whether DRY or not", x.power(0, 6), 6);
    }

    private static void odds(DumplingPolls x, int sink, int k, int upper, int lower) {
        due("odds(" + sink + ", " + k + ", 0)", x.odds(sink, k, 0), upper);
        due("odds(" + sink + ", " + k + ", 1)", x.odds(sink, k, 1), lower);
    }

    private static void odds() {
        odds(new DumplingPolls(), 10, 0, 1, 1);
        DumplingPolls x = check.pot("d40 1 0 0;d40 1 0 0;d40 1 0 0;d40 1 0 0;d40 1 0 0;d40 1 0 0;", 6);
        odds(x, 5, 0, 1, 1);
        x.drops(0);
        odds(x, 3, 0, 7, 10);
        odds(x, 4, 0, 3, 5);
        odds(x, 3, 1, 1, 1);
        odds(x, 10, 0, 0, 1);
        x.drops(3);
        odds(x, 3, 0, 49, 100);
        odds(x, 3, 1, 91, 100);
        odds(x, 2, 1, 24, 25);
        odds(x, 10, 1, 0, 1);
        odds(x, 10, 2, 1, 1);
        odds(x, 0, 0, 1, 1);
        x.drops(1);
        x.drops(2);
        x.drops(4);
        x.drops(5);
        odds(x, 5, 0, 1, 64);
        odds(x, 5, 3, 21, 32);
        odds(x, 1, 0, 531441, 1000000);
        odds(x, 9, 5, 468559, 1000000);
        odds(x, 9, 6, 1, 1);
        due("odds(11, 0, 0)", x.odds(11, 0, 0), Check.BAD);
        due("odds(-1, 0, 0)", x.odds(-1, 0, 0), Check.BAD);
        due("odds(0, 7, 0)", x.odds(0, 7, 0), Check.BAD);
        due("odds(0, -1, 0)", x.odds(0, -1, 0), Check.BAD);
        due("odds(0, 0, 2)", x.odds(0, 0, 2), Check.BAD);
        due("odds(0, 0, -1)", x.odds(0, 0, -1), Check.BAD);
    }

    private static void nothingIsChanged() {
        DumplingPolls x = check.pot("h9;g9;d0 9 1 5;d0 9 1 2;d1 4 1 0;", 5);
        x.drops(0);
        x.drops(1);
        check.minutes(x, 1);
        x.deep(0, 40);
        x.when(0);
        x.warm(0, 40);
        x.kept(2, 40);
        due("minute", x.now(0), 1);
        due("HEAT", x.now(1), 9);
        due("DRY", x.now(2), 4);
        due("RISEN", x.now(4), 0);
        due("UNDONE", x.now(6), 3);
        due("SIZE", x.dumpling(0, 1), 10);
        due("DEPTH", x.dumpling(0, 4), 9);
        due("LUMP", x.dumpling(0, 5), 3);
    }
}
