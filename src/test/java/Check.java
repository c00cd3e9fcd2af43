/** Counts and prints the answers that are not as due, and ends the program with exit code 1 if there was one. */
final class Check {
    private final String title;
    private int checked;
    private int wrong;

    Check() {
        this("");
    }

    /** The title stands before each wrong answer. */
    Check(String title) {
        this.title = title;
    }

    interface Call {
        Object answer();
    }

    void due(String what, Object want, Call call) {
        checked++;
        Object got;
        try {
            got = call.answer();
        } catch (RuntimeException e) {
            got = "throws " + e.getClass().getSimpleName();
        }
        if (!want.equals(got)) {
            wrong++;
            System.out.println(title + what + " answered " + got + ", due is " + want);
        }
    }

    /** Only the very class counts: one of the machine's own exceptions below it is wrong. */
    void refused(String what, Class<? extends RuntimeException> want, Call call) {
        due(what, "throws " + want.getSimpleName(), call);
    }

    int checked() {
        return checked;
    }

    void add(Check other) {
        checked += other.checked;
        wrong += other.wrong;
    }

    void end() {
        System.out.println(checked + " answers checked, " + wrong + " wrong");
        if (wrong != 0 || checked == 0) {
            System.exit(1);
        }
    }

    static String output(SnowLedger ledger, int length) {
        StringBuilder text = new StringBuilder();
        for (int i = 0; i < length; i++) {
            text.append(ledger.outputAt(i));
        }
        return text.toString();
    }

    static void type(SnowLedger ledger, String text) {
        for (char character : text.toCharArray()) {
            ledger.type(character);
        }
    }

    static int run(SnowLedger ledger, String text) {
        type(ledger, text);
        return ledger.runScript();
    }

    /**
     * Hill 0 wrote 1 on the root (10, 20, 30) and 2 on it (40); hill 1 wrote 3 on the root (no flakes) and 4 on it
     * (10, 40); hill 2 has written nothing and holds 5. These are 14 changes.
     */
    static SnowLedger twoBranches() {
        SnowLedger ledger = new SnowLedger();
        ledger.addHill();
        ledger.addHill();
        ledger.addHill();
        ledger.collect(0, 10);
        ledger.collect(0, 20);
        ledger.collect(0, 30);
        ledger.write(0);
        ledger.collect(0, 40);
        ledger.write(0);
        ledger.write(1);
        ledger.collect(1, 10);
        ledger.collect(1, 40);
        ledger.write(1);
        ledger.collect(2, 5);
        return ledger;
    }

    /** One hill, and 15 blocks one upon the other. */
    static SnowLedger fullChain() {
        SnowLedger ledger = new SnowLedger();
        ledger.addHill();
        for (int i = 0; i < 15; i++) {
            ledger.write(0);
        }
        return ledger;
    }
}
