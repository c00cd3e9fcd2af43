/** Ledgers in the states that the tests of sentences start from. */
final class Ledgers {
    private Ledgers() {
    }

    static SnowLedger withHills(int hills) {
        SnowLedger ledger = new SnowLedger();
        for (int i = 0; i < hills; i++) {
            ledger.addHill();
        }
        return ledger;
    }

    /** Lets the hill collect the flakes and write, and answers the number of the block. */
    static int write(SnowLedger ledger, int hill, int... flakes) {
        for (int flake : flakes) {
            ledger.collect(hill, flake);
        }
        return ledger.write(hill);
    }

    /** One hill, which wrote block 1 with the flakes on the root. */
    static SnowLedger withBlock(int... flakes) {
        SnowLedger ledger = withHills(1);
        write(ledger, 0, flakes);
        return ledger;
    }

    /** One hill, and the blocks 1 to n one upon the other, each with the flake 7. */
    static SnowLedger chain(int blocks) {
        SnowLedger ledger = withHills(1);
        for (int i = 0; i < blocks; i++) {
            write(ledger, 0, 7);
        }
        return ledger;
    }

    /** One hill, and the blocks 1 to n all on the root, each with the flake 7. */
    static SnowLedger star(int blocks) {
        SnowLedger ledger = withHills(1);
        for (int i = 0; i < blocks; i++) {
            ledger.follow(0, 0);
            write(ledger, 0, 7);
        }
        return ledger;
    }

    static SnowLedger twoBranches() {
        return Check.twoBranches();
    }

    /** Two branches, of which block 2 melted; 3 and 4 are left on the other one, and number 5 is the next. */
    static SnowLedger meltedTip() {
        SnowLedger ledger = twoBranches();
        ledger.melt(2);
        return ledger;
    }

    /** Two branches, of which block 1 and 2 on it melted. */
    static SnowLedger meltedBranch() {
        SnowLedger ledger = twoBranches();
        ledger.melt(1);
        return ledger;
    }

    /** Two branches with a snapshot, an output text, a script without the form, a failed one and one half typed. */
    static SnowLedger wellUsed() {
        SnowLedger ledger = twoBranches();
        ledger.save();
        ledger.replaceFlake(1, 1, 21);
        ledger.addHill();
        for (String script : new String[] {"hill;hil", "follow 0 0;melt 9"}) {
            Check.type(ledger, script);
            try {
                ledger.runScript();
            } catch (IllegalArgumentException | IllegalStateException e) {
                // Both are to fail.
            }
        }
        ledger.renderBlock(1);
        Check.type(ledger, "follow 0 ");
        return ledger;
    }
}
