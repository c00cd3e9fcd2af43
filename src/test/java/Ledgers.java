/** Ledgers in the states that the tests of sentences start from. */
final class Ledgers {
    private Ledgers() {
    }

    static SnowLedger withHills(int hills) {
        SnowLedger ledger = new SnowLedger();
        for (int i = 0; i < hills; i++) {
            ledger.addHill();
        }
        return ledger;
    }

    /** Lets the hill collect the flakes and write, and answers the number of the block. */
    static int write(SnowLedger ledger, int hill, int... flakes) {
        for (int flake : flakes) {
            ledger.collect(hill, flake);
        }
        return ledger.write(hill);
    }

    /** One hill, which wrote block 1 with the flakes on the root. */
    static SnowLedger withBlock(int... flakes) {
        SnowLedger ledger = withHills(1);
        write(ledger, 0, flakes);
        return ledger;
    }

    /** One hill, and the blocks 1 to n one upon the other, each with the flake 7. */
    static SnowLedger chain(int blocks) {
        SnowLedger ledger = withHills(1);
        for (int i = 0; i < blocks; i++) {
            write(ledger, 0, 7);
        }
        return ledger;
    }

    /** One hill, and the blocks 1 to n all on the root, each with the flake 7. */
    static SnowLedger star(int blocks) {
        SnowLedger ledger = withHills(1);
        for (int i = 0; i < blocks; i++) {
            ledger.follow(0, 0);
            write(ledger, 0, 7);
        }
        return ledger;
    }

    /** A chain in which block 2 has the flakes, and the blocks before and after it have four others each. */
    static SnowLedger between(int... flakes) {
        SnowLedger ledger = withBlock(20, 21, 22, 23);
        write(ledger, 0, flakes);
        write(ledger, 0, 30, 31, 32, 33);
        return ledger;
    }

    /**
     * Three hills. Hill 1 wrote 1 on the root (10, 20) and hill 2 wrote 2 on it (30); 3 has melted. Hill 0 follows 1
     * and holds 40, hill 1 follows 1 and holds 50, hill 2 follows 2.
     */
    static SnowLedger mixed() {
        SnowLedger ledger = withHills(3);
        write(ledger, 1, 10, 20);
        write(ledger, 2, 30);
        ledger.write(0);
        ledger.melt(3);
        ledger.follow(0, 1);
        ledger.collect(0, 40);
        ledger.collect(1, 50);
        return ledger;
    }

    static SnowLedger twoBranches() {
        return Check.twoBranches();
    }

    /** Two branches, of which block 2 melted; 3 and 4 are left on the other one, and number 5 is the next. */
    static SnowLedger meltedTip() {
        SnowLedger ledger = twoBranches();
        ledger.melt(2);
        return ledger;
    }

    /** Two branches, of which block 1 and 2 on it melted. */
    static SnowLedger meltedBranch() {
        SnowLedger ledger = twoBranches();
        ledger.melt(1);
        return ledger;
    }

    /** Two branches with a snapshot, an output text, a script without the form, a failed one and one half typed. */
    static SnowLedger wellUsed() {
        SnowLedger ledger = twoBranches();
        ledger.save();
        ledger.replaceFlake(1, 1, 21);
        ledger.addHill();
        for (String script : new String[] {"hill;hil", "follow 0 0;melt 9"}) {
            Check.type(ledger, script);
            try {
                ledger.runScript();
            } catch (IllegalArgumentException | IllegalStateException e) {
                // Both are to fail.
            }
        }
        ledger.renderBlock(1);
        Check.type(ledger, "follow 0 ");
        return ledger;
    }
}
