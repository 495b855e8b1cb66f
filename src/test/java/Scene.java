/** Objects in the midst of a run, all that can be asked of them, and all that comes behind. */
final class Scene {
    private Scene() { }

    static void tell(DumplingPolls x, String text) {
        for (int i = 0; i < text.length(); i++) {
            x.type(text.charAt(i));
        }
    }

    private static DumplingPolls pot(String text) {
        DumplingPolls x = new DumplingPolls();
        tell(x, text);
        x.pot();
        return x;
    }

    /** 0 and 1 are one LUMP on its way, 2 has RISEN and is DRY, 3 is DRY, 4 is up; both images are kept. */
    static DumplingPolls busy() {
        DumplingPolls x = pot("h8;g1;r15;d8 4 1 5;d7 4 1 3;d0 9 2 0;d30 3 0 2;d0 2 0 1;");
        x.drops(2);
        x.drops(4);
        x.minute();
        x.minute();
        x.keep(0);
        x.heats(7);
        x.drops(0);
        x.drops(1);
        for (int i = 0; i < 8; i++) {
            x.minute();
        }
        x.dips(2);
        x.undo();
        x.dips(2);
        x.keep(1);
        x.heats(0);
        x.minute();
        x.sees(0, 3, 8);
        x.sees(3, 20, 10);
        x.sees(0, 7, 4);
        x.rate(4, 1);
        tell(x, "h1;d");
        return x;
    }

    /** The minute is 99, image 1 was not kept, and more than ten things were done. */
    static DumplingPolls late() {
        DumplingPolls x = pot("h4;d6 4 0 1;d2 9 1 2;");
        x.drops(0);
        for (int i = 0; i < 99; i++) {
            x.minute();
            if (i == 70) {
                x.keep(0);
            }
            if (i == 96) {
                x.drops(1);
            }
        }
        return x;
    }

    /** THE TEXT is full, and so is what is SEEN. */
    static DumplingPolls full() {
        DumplingPolls x = pot("d6 4 0 1;d2 9 1 2;");
        x.drops(1);
        x.minute();
        tell(x, "h7;".repeat(40));
        for (int i = 0; i < 6; i++) {
            x.sees(i % 2, 2, 9);
        }
        return x;
    }

    static DumplingPolls fresh() {
        return new DumplingPolls();
    }

    /** All that can be asked and changes nothing. */
    static String all(DumplingPolls x) {
        StringBuilder told = new StringBuilder();
        for (int d = 0; d < 6; d++) {
            for (int what = 0; what < 7; what++) {
                told.append(x.dumpling(d, what)).append(what < 6 ? "," : ";");
            }
        }
        for (int what = 0; what < 7; what++) {
            told.append(" n").append(x.now(what));
        }
        for (int k = 0; k < 6; k++) {
            told.append(" o").append(x.order(k)).append(" c").append(x.count(k));
        }
        for (int d = 0; d < 5; d++) {
            told.append(" w").append(x.weights(d, 0)).append(",").append(x.weights(d, 1));
        }
        return told.append(" t").append(x.trace()).toString();
    }

    private static void some(DumplingPolls x, StringBuilder told) {
        for (int what = 0; what < 5; what++) {
            told.append(" ").append(x.now(what));
        }
        for (int d = 0; d < 5; d++) {
            told.append(" ").append(x.dumpling(d, 1)).append(",").append(x.dumpling(d, 4));
        }
        told.append(" ").append(x.dumpling(0, 5)).append(" ").append(x.dumpling(2, 6)).append(";");
    }

    /** What can be UNDONE, what the images have, and what THE TEXT tells; changes the object. */
    static String behind(DumplingPolls x) {
        StringBuilder told = new StringBuilder();
        for (int i = 0; i < 11; i++) {
            told.append("undo ").append(x.undo());
            if (i < 10) {
                some(x, told);
            }
        }
        for (int image = 0; image < 2; image++) {
            told.append("back ").append(x.back(image));
            some(x, told);
        }
        told.append("pot ").append(x.pot()).append(" clear ").append(x.clear());
        return told.append(" heat ").append(x.count(1)).toString();
    }
}
