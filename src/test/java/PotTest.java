/** Promises 1 to 7: a new object, the text, what it tells, who is up when. */
public final class PotTest {
    private static final Check check = new Check("PotTest");

    public static void main(String[] args) {
        newObject();
        letters();
        texts();
        faults();
        faultChangesNothing();
        readAnew();
        dumplings();
        nows();
        pots();
        orders();
        check.end();
    }

    private static void due(String call, long got, long want) {
        check.due(call, got, want);
    }

    private static void newObject() {
        DumplingPolls x = new DumplingPolls();
        due("new count(0)", x.count(0), 0);
        due("new count(1)", x.count(1), 3);
        due("new count(2)", x.count(2), 1);
        due("new count(3)", x.count(3), 20);
        due("new count(4)", x.count(4), 0);
        due("new count(5)", x.count(5), 0);
        due("new now(0)", x.now(0), 0);
        due("new now(1)", x.now(1), 3);
        due("new now(2)", x.now(2), 0);
        due("new now(3)", x.now(3), 0);
        due("new now(4)", x.now(4), 0);
        due("new now(5)", x.now(5), 0);
        due("new now(6)", x.now(6), 0);
        due("new trace()", x.trace(), 0);
        due("new undo()", x.undo(), Check.STATE);
        due("new back(0)", x.back(0), Check.STATE);
        due("new back(1)", x.back(1), Check.STATE);
        due("new dumpling(0, 0)", x.dumpling(0, 0), Check.BAD);
        due("new order(5)", x.order(5), Check.NONE);
    }

    private static void letters() {
        DumplingPolls x = new DumplingPolls();
        due("type(-1)", x.type(-1), Check.BAD);
        due("type(256)", x.type(256), Check.BAD);
        due("type(min)", x.type(Integer.MIN_VALUE), Check.BAD);
        due("type(0)", x.type(0), 1);
        due("type(255)", x.type(255), 2);
        due("clear()", x.clear(), 2);
        due("clear() again", x.clear(), 0);
        for (int i = 1; i <= 120; i++) {
            due("type(32) " + i, x.type(32), i);
        }
        due("type(32), full", x.type(32), Check.FULL);
        due("type(256), full", x.type(256), Check.BAD);
        due("count(5), full", x.count(5), 120);
        due("pot() of 120 blanks", x.pot(), 0);
        due("count(5) behind pot()", x.count(5), 0);
        check.types(x, "h4");
        due("clear() of h4", x.clear(), 2);
        due("pot() of nothing", x.pot(), 0);
        due("now(1)", x.now(1), 3);
    }

    private static void texts() {
        check.pot("", 0);
        check.pot("  ", 0);
        DumplingPolls x = check.pot("h0;g0;r9;d0 1 0 0;", 4);
        due("HEAT 0", x.count(1), 0);
        due("GLUE 0", x.count(2), 0);
        due("ROOM 9", x.count(3), 9);
        x = check.pot("d40 9 3 9;r40;g9;h9;", 4);
        due("HEAT 9", x.count(1), 9);
        due("GLUE 9", x.count(2), 9);
        due("ROOM 40", x.count(3), 40);
        due("WEIGHT 40", x.dumpling(0, 0), 40);
        due("SIZE 9", x.dumpling(0, 1), 9);
        due("SWELL 3", x.dumpling(0, 2), 3);
        due("SEATS 9", x.dumpling(0, 3), 9);
        x = check.pot("  d  4   5 2 1  ;  h  7 ; g3  ;r  10;d 6 7 1 8;   ", 5);
        due("count(0)", x.count(0), 2);
        due("second WEIGHT", x.dumpling(1, 0), 6);
        due("second SIZE", x.dumpling(1, 1), 7);
        due("second SWELL", x.dumpling(1, 2), 1);
        due("second SEATS", x.dumpling(1, 3), 8);
        due("first SEATS", x.dumpling(0, 3), 1);
        check.pot("d0 1 0 0;d0 1 0 0;d0 1 0 0;d0 1 0 0;d0 1 0 0;d0 1 0 0;h1;g1;r9;", 9);
        StringBuilder longest = new StringBuilder("h8;");
        while (longest.length() < 120) {
            longest.append(' ');
        }
        x = check.pot(longest.toString(), 1);
        due("HEAT of the longest", x.count(1), 8);
    }

    private static void fault(String text, int place) {
        DumplingPolls x = new DumplingPolls();
        check.types(x, text);
        due("pot() of <" + text + ">", x.pot(), -10 - place);
        due("count(5) behind <" + text + ">", x.count(5), text.length());
    }

    private static void faults() {
        fault(";", 0);
        fault("  5;", 2);
        fault("x", 0);
        fault(" \t", 1);
        fault("D1 1 1 1;", 0);
        fault("\u0000", 0);
        fault("h\u0001;", 1);
        fault("h\u0002;", 1);
        fault("h3\u00ff", 2);
        fault("h", 1);
        fault("h  ", 3);
        fault("h3", 2);
        fault("h3  ", 4);
        fault("h;", 1);
        fault("hh3;", 1);
        fault("h10;", 1);
        fault("h10", 1);
        fault("h 100;", 2);
        fault("h00;", 1);
        fault("h03;", 1);
        fault("h3 4;", 3);
        fault("h3 100;", 3);
        fault("h3 04;", 3);
        fault("h3g1;", 2);
        fault("h3;h", 3);
        fault("h3;h3;", 3);
        fault("g1;g2;", 3);
        fault("g10;", 1);
        fault("r9;h1;r9;", 6);
        fault("r8;", 1);
        fault("r41;", 1);
        fault("r09;", 1);
        fault("h3;;", 3);
        fault("d41 1 0 0;", 1);
        fault("d1 0 0 0;", 3);
        fault("d1 10 0 0;", 3);
        fault("d1 1 4 0;", 5);
        fault("d1 1 0 10;", 7);
        fault("d1 1 0;", 6);
        fault("d1 1 0 0 0;", 9);
        fault("d1 1 0 0", 8);
        fault("d1 1 0 ", 7);
        fault("d1,1 0 0;", 2);
        fault("d1 1 00 0;", 5);
        fault("d-1 1 0 0;", 1);
        fault("d99999999999999999999 1 0 0;", 1);
        fault("d1 1 0 4294967296;", 7);
        fault("d1 1 0 0;d1 1 0 0;d1 1 0 0;d1 1 0 0;d1 1 0 0;d1 1 0 0; d", 55);
        fault("d1 1 0 0;d1 1 0 0;d1 1 0 0;d1 1 0 0;d1 1 0 0;d1 1 0 0;h3; dx", 58);
        fault("h3 x 99999", 3);
    }

    private static void faultChangesNothing() {
        DumplingPolls x = check.pot("h5;g2;r30;d5 6 1 7;", 4);
        x.drops(0);
        x.minute();
        x.sees(0, 2, 8);
        x.keep(1);
        check.types(x, "h1;d1 1 1 1;g");
        due("pot()", x.pot(), -23);
        due("count(0)", x.count(0), 1);
        due("count(1)", x.count(1), 5);
        due("count(2)", x.count(2), 2);
        due("count(3)", x.count(3), 30);
        due("count(4)", x.count(4), 1);
        due("count(5)", x.count(5), 13);
        due("now(0)", x.now(0), 1);
        due("now(6)", x.now(6), 2);
        due("dumpling(0, 0)", x.dumpling(0, 0), 5);
        due("dumpling(0, 4)", x.dumpling(0, 4), 9);
        due("back(1)", x.back(1), 1);
        check.types(x, "0;");
        due("pot() of what stayed", x.pot(), 3);
        due("count(2) then", x.count(2), 0);
    }

    private static void readAnew() {
        DumplingPolls x = check.pot("h9;g2;r30;d0 9 1 7;d0 5 1 2;", 5);
        x.drops(0);
        check.minutes(x, 12);
        x.sees(1, 2, 8);
        x.keep(0);
        x.keep(1);
        due("rate(5, 0)", x.rate(5, 0), 30);
        check.types(x, "d3 4 2 1;");
        due("pot() anew", x.pot(), 1);
        due("count(0)", x.count(0), 1);
        due("count(1)", x.count(1), 3);
        due("count(2)", x.count(2), 1);
        due("count(3)", x.count(3), 20);
        due("count(4)", x.count(4), 0);
        due("count(5)", x.count(5), 0);
        due("now(0)", x.now(0), 0);
        due("now(1)", x.now(1), 3);
        due("now(2)", x.now(2), 1);
        due("now(4)", x.now(4), 0);
        due("now(6)", x.now(6), 0);
        due("undo()", x.undo(), Check.STATE);
        due("back(0)", x.back(0), Check.STATE);
        due("back(1)", x.back(1), Check.STATE);
        due("order(0)", x.order(0), Check.NONE);
        due("dumpling(0, 1)", x.dumpling(0, 1), 4);
        due("dumpling(0, 6)", x.dumpling(0, 6), Check.NONE);
        due("dumpling(1, 0)", x.dumpling(1, 0), Check.BAD);
        due("trace() goes on", x.trace(), 100001);
        check.types(x, "h1;g1;r9;");
        due("each told again", x.pot(), 3);
        check.types(x, "h2;g2;r10;");
        due("and again", x.pot(), 3);
        due("ROOM", x.count(3), 10);
        due("pot() of nothing", x.pot(), 0);
        due("count(0) of nothing", x.count(0), 0);
        due("dumpling(0, 0)", x.dumpling(0, 0), Check.BAD);
    }

    private static void dumplings() {
        DumplingPolls x = check.pot("h0;g9;d2 3 1 4;d2 3 1 5;d40 9 0 9;", 5);
        due("DRY", x.dumpling(0, 4), Check.NONE);
        due("alone", x.dumpling(1, 5), 2);
        due("RISEN", x.dumpling(0, 6), Check.NONE);
        x.drops(0);
        x.drops(1);
        due("at the bottom", x.dumpling(0, 4), 10);
        check.minutes(x, 1);
        due("DEPTH", x.dumpling(0, 4), 9);
        due("LUMP of 0", x.dumpling(0, 5), 3);
        due("LUMP of 1", x.dumpling(1, 5), 3);
        due("LUMP of 2", x.dumpling(2, 5), 4);
        due("SIZE", x.dumpling(0, 1), 4);
        due("SIZE of a DRY one", x.dumpling(2, 1), 9);
        check.minutes(x, 9);
        due("up", x.dumpling(1, 4), 0);
        due("RISEN then", x.dumpling(1, 6), 10);
        due("dumpling(0, 7)", x.dumpling(0, 7), Check.BAD);
        due("dumpling(0, -1)", x.dumpling(0, -1), Check.BAD);
        due("dumpling(3, 0)", x.dumpling(3, 0), Check.BAD);
        due("dumpling(-1, 0)", x.dumpling(-1, 0), Check.BAD);
        due("dumpling(max, 0)", x.dumpling(Integer.MAX_VALUE, 0), Check.BAD);
    }

    private static void nows() {
        DumplingPolls x = check.pot("h2;d0 9 0 1;d40 1 0 1;d0 1 0 1;", 4);
        due("all DRY", x.now(2), 7);
        x.drops(0);
        x.drops(2);
        due("one is DRY", x.now(2), 2);
        x.heats(4);
        due("now(1)", x.now(1), 4);
        due("count(1) as told", x.count(1), 2);
        check.minutes(x, 9);
        due("none is up", x.now(3), 0);
        due("none has RISEN", x.now(4), 0);
        check.minutes(x, 1);
        due("up", x.now(3), 5);
        due("RISEN", x.now(4), 2);
        x.dips(0);
        due("up but the one dipped", x.now(3), 4);
        due("RISEN stays", x.now(4), 2);
        due("DRY again", x.now(2), 3);
        due("now(0)", x.now(0), 10);
        due("now(6)", x.now(6), 10);
        due("now(7)", x.now(7), Check.BAD);
        due("now(-1)", x.now(-1), Check.BAD);
    }

    private static void pots() {
        due("each alone", check.pot("r9;d0 9 0 0;d0 9 0 0;d0 1 0 0;", 4).now(5), 3);
        due("all in one", check.pot("r40;d0 9 0 0;d0 9 0 0;d0 9 0 0;d0 9 0 0;d0 4 0 0;", 6).now(5), 1);
        due("one too much", check.pot("r39;d0 9 0 0;d0 9 0 0;d0 9 0 0;d0 9 0 0;d0 4 0 0;", 6).now(5), 2);
        due("not one by one", check.pot("r10;d0 4 0 0;d0 3 0 0;d0 6 0 0;d0 7 0 0;", 5).now(5), 2);
        due("not the largest first",
                check.pot("r12;d0 6 0 0;d0 4 0 0;d0 4 0 0;d0 4 0 0;d0 3 0 0;d0 3 0 0;", 7).now(5), 2);
        DumplingPolls x = check.pot("r9;d0 7 1 0;d40 2 0 0;", 3);
        due("full to the brim", x.now(5), 1);
        x.drops(0);
        check.minutes(x, 1);
        due("by SIZE now", x.now(5), 2);
        check.minutes(x, 1);
        due("of just ROOM", x.now(5), 2);
        check.minutes(x, 1);
        due("larger than ROOM", x.now(5), Check.NONE);
        x.skewers(0);
        due("cut", x.now(5), 1);
    }

    private static void orders() {
        DumplingPolls x = check.pot("h0;g0;d0 9 0 0;d0 7 0 0;d1 6 0 0;d0 1 0 0;d0 2 0 0;", 7);
        x.drops(2);
        x.drops(1);
        check.minutes(x, 1);
        x.drops(0);
        check.minutes(x, 9);
        due("order(0)", x.order(0), 1);
        due("order(1)", x.order(1), 2);
        due("order(2)", x.order(2), Check.NONE);
        check.minutes(x, 1);
        due("order(2) then", x.order(2), 0);
        x.dips(1);
        x.drops(1);
        x.drops(4);
        check.minutes(x, 11);
        due("order(0) stays", x.order(0), 1);
        due("RISEN once", x.dumpling(1, 6), 10);
        due("order(3)", x.order(3), 4);
        due("order(4)", x.order(4), Check.NONE);
        due("order(5)", x.order(5), Check.NONE);
        due("order(6)", x.order(6), Check.BAD);
        due("order(-1)", x.order(-1), Check.BAD);
    }
}
