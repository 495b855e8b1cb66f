/** Counts the answers that are not due and tells them. */
final class Check {
    static final int BAD = -1, STATE = -2, FULL = -3, NONE = -9, NO = -1000000;

    private final String name;
    private int asked;
    private int wrong;

    Check(String name) {
        this.name = name;
    }

    void due(String call, long got, long want) {
        asked++;
        if (got != want) {
            wrong++;
            System.out.println(name + ": " + call + " answered " + got + ", due is " + want);
        }
    }

    void same(String what, String got, String want) {
        asked++;
        if (!got.equals(want)) {
            wrong++;
            System.out.println(name + ": " + what + " is\n  " + got + "\ndue is\n  " + want);
        }
    }

    /** Types a text and looks at how many letters there are each time. */
    void types(DumplingPolls x, String text) {
        int had = x.count(5);
        for (int i = 0; i < text.length(); i++) {
            due("type(" + (int) text.charAt(i) + ")", x.type(text.charAt(i)), had + i + 1);
        }
    }

    DumplingPolls pot(String text, int items) {
        DumplingPolls x = new DumplingPolls();
        types(x, text);
        due("pot() of " + text, x.pot(), items);
        return x;
    }

    void minutes(DumplingPolls x, int many) {
        for (int i = 0; i < many; i++) {
            int was = x.now(0);
            x.minute();
            due("now(0) behind minute()", x.now(0), was + 1);
        }
    }

    void end() {
        System.out.println(name + ": " + asked + " answers looked at, " + wrong + " not as due");
        if (wrong != 0) {
            System.exit(1);
        }
    }
}
