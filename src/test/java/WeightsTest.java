/** Promises 21 to 24: how heavy one is, by how deep it was when. */
public final class WeightsTest {
    private static final Check check = new Check("WeightsTest");

    public static void main(String[] args) {
        sightings();
        weights();
        asThingsAreNow();
        look();
        check.end();
    }

    private static void due(String call, long got, long want) {
        check.due(call, got, want);
    }

    private static void three(DumplingPolls x, int d, int many, int least, int greatest) {
        due("weights(" + d + ", 0)", x.weights(d, 0), many);
        due("weights(" + d + ", 1)", x.weights(d, 1), least);
        due("weights(" + d + ", 2)", x.weights(d, 2), greatest);
    }

    private static void sightings() {
        DumplingPolls x = check.pot("d1 1 0 0;d1 1 0 0;", 2);
        due("sees(2, 1, 0)", x.sees(2, 1, 0), Check.BAD);
        due("sees(-1, 1, 0)", x.sees(-1, 1, 0), Check.BAD);
        due("sees(0, 0, 0)", x.sees(0, 0, 0), Check.BAD);
        due("sees(0, 21, 0)", x.sees(0, 21, 0), Check.BAD);
        due("sees(0, 1, -1)", x.sees(0, 1, -1), Check.BAD);
        due("sees(0, 1, 11)", x.sees(0, 1, 11), Check.BAD);
        due("forget() of nothing", x.forget(), 0);
        for (int i = 1; i <= 6; i++) {
            due("sees(1, 20, 10) " + i, x.sees(i % 2, 20, 10), i);
        }
        due("sees(1, 20, 10) 7", x.sees(1, 20, 10), Check.FULL);
        due("sees(1, 21, 10), BAD ahead of FULL", x.sees(1, 21, 10), Check.BAD);
        due("count(4)", x.count(4), 6);
        due("forget()", x.forget(), 6);
        due("count(4) then", x.count(4), 0);
        due("sees(0, 1, 0) then", x.sees(0, 1, 0), 1);
    }

    private static void weights() {
        DumplingPolls x = check.pot("h3;d1 5 0 0;d40 9 1 0;", 3);
        three(x, 0, 41, 0, 40);
        x.sees(0, 4, 6);
        three(x, 0, 8, 0, 7);
        three(x, 1, 41, 0, 40);
        x.sees(0, 4, 10);
        three(x, 0, 0, Check.NONE, Check.NONE);
        x.forget();
        x.sees(0, 20, 10);
        three(x, 0, 33, 8, 40);
        // SIZES 10, 11, 12, 13 and HEAT 3: 13 to 16, so of 14 it is 2 less deep behind 4, of 13 it is 3.
        x.sees(1, 4, 8);
        three(x, 1, 1, 14, 14);
        x.sees(1, 1, 10);
        three(x, 1, 1, 14, 14);
        x.sees(1, 1, 9);
        three(x, 1, 0, Check.NONE, Check.NONE);
        x = check.pot("h0;d1 1 0 0;", 2);
        x.sees(0, 1, 9);
        three(x, 0, 1, 0, 0);
        due("weights(0, 3)", x.weights(0, 3), Check.BAD);
        due("weights(0, -1)", x.weights(0, -1), Check.BAD);
        due("weights(1, 0)", x.weights(1, 0), Check.BAD);
        due("weights(-1, 0)", x.weights(-1, 0), Check.BAD);
    }

    /** SEEN says SIZE NOW and HEAT NOW: we take these as they are when weights() is asked. */
    private static void asThingsAreNow() {
        DumplingPolls x = check.pot("h3;d1 5 2 0;d1 5 2 0;", 3);
        x.sees(0, 1, 9);
        three(x, 0, 10, 0, 9);
        x.heats(5);
        three(x, 0, 12, 0, 11);
        x.drops(0);
        check.minutes(x, 2);
        three(x, 0, 16, 0, 15);
        x.skewers(0);
        three(x, 0, 11, 0, 10);
        x.undo();
        three(x, 0, 16, 0, 15);
    }

    private static void look() {
        DumplingPolls x = check.pot("h3;d1 5 0 0;d40 9 3 0;", 3);
        // Without SWELL 0 .. 7 go up and 8 .. 40 stay at the bottom, whenever one looks.
        due("look(0)", x.look(0), 1);
        x.sees(0, 1, 9);
        due("look(0), 0 .. 7 alike", x.look(0), 1);
        x.sees(0, 1, 10);
        due("look(0), none", x.look(0), Check.NONE);
        due("look(2)", x.look(2), Check.BAD);
        due("look(-1)", x.look(-1), Check.BAD);
        // SIZES 12, 15 .. 30 and HEAT 3: 0 .. 14 go up at once, three more each minute;
        // behind 5 those at the bottom are 14, so 15 are the most alike from there on.
        due("look(1)", x.look(1), 5);
        x.sees(1, 7, 10);
        due("look(1) of 33 .. 40", x.look(1), 1);
        x.forget();
        x.sees(1, 4, 8);
        due("weights(1, 0)", x.weights(1, 0), 3);
        due("look(1) of three", x.look(1), 1);
        x = check.pot("h0;d1 1 1 0;d1 2 0 0;", 3);
        // 0 goes up from the first minute on, w from the w-th on: 20 are at the bottom behind 20.
        due("look(0), the last minute", x.look(0), 20);
        x.sees(1, 1, 9);
        due("weights(1, 0) of two", x.weights(1, 0), 2);
        due("look(1) of two", x.look(1), 1);
        x.sees(0, 3, 9);
        due("of one", x.weights(0, 0), 1);
        due("look(0) of one", x.look(0), Check.NONE);
        x.drops(0);
        check.minutes(x, 29);
        x.heats(9);
        x.forget();
        due("look(0), 39 alike always", x.look(0), 1);
        x.skewers(0);
        x.sees(0, 1, 10);
        x.sees(0, 5, 7);
        // SIZE 15 grows to 20 and HEAT is 9: of 26 it goes up in the last three of 5 minutes.
        three(x, 0, 1, 26, 26);
    }
}
