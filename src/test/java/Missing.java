import java.util.function.Supplier;

/** Which numbers of blocks and of hills have an answer, and which are refused as there is none. */
final class Missing {
    private static final int MIN = Integer.MIN_VALUE;
    private static final int MAX = Integer.MAX_VALUE;

    interface Query {
        Object of(SnowLedger ledger, int number);
    }

    private Missing() {
    }

    /** The blocks of the tree are answered, the root among them. */
    static void block(Check check, Query query) {
        answered(check, query, Ledgers::twoBranches, 0, 1, 2, 3, 4);
        answered(check, query, () -> Ledgers.chain(15), 0, 1, 15);
        answered(check, query, Ledgers::meltedBranch, 0, 3, 4);
        noBlock(check, query);
    }

    /** The blocks of the tree are answered, but for the root, of which nothing is said here. */
    static void writtenBlock(Check check, Query query) {
        answered(check, query, Ledgers::twoBranches, 1, 2, 3, 4);
        answered(check, query, () -> Ledgers.chain(15), 1, 15);
        answered(check, query, Ledgers::meltedBranch, 3, 4);
        noBlock(check, query);
    }

    /** Blocks with flakes are answered. */
    static void blockWithFlake(Check check, Query query) {
        answered(check, query, Ledgers::twoBranches, 1, 2, 4);
        answered(check, query, () -> Ledgers.chain(15), 1, 15);
        noBlock(check, query);
    }

    /** Blocks that are not valid are answered. */
    static void invalidBlock(Check check, Query query) {
        for (int block : new int[] {1, 2, 4}) {
            answered(check, query, () -> {
                SnowLedger ledger = Ledgers.twoBranches();
                ledger.replaceFlake(block, 0, 99);
                return ledger;
            }, block);
        }
        noBlock(check, query);
    }

    private static void answered(Check check, Query query, Supplier<SnowLedger> made, int... blocks) {
        for (int block : blocks) {
            check.due("block " + block + " of the tree", "an answer", () -> {
                query.of(made.get(), block);
                return "an answer";
            });
        }
    }

    private static void noBlock(Check check, Query query) {
        refused(check, query, "the root alone", () -> Ledgers.withHills(1), -1, 1, 2, 15, 16, MIN, MAX);
        refused(check, query, "five blocks", Ledgers::twoBranches, -1, 5, 6, 15, 16, MIN, MAX);
        refused(check, query, "a full tree", () -> Ledgers.chain(15), -1, 16, 17, MIN, MAX);
        refused(check, query, "a melted tip", Ledgers::meltedTip, -1, 2, 5);
        refused(check, query, "a melted branch", Ledgers::meltedBranch, -1, 1, 2, 5);
        refused(check, query, "an undone block", () -> {
            SnowLedger ledger = Ledgers.chain(2);
            ledger.undo();
            return ledger;
        }, -1, 2, 3);
    }

    private static void refused(Check check, Query query, String where, Supplier<SnowLedger> made, int... blocks) {
        Refusals refusals = Refusals.of(check, made);
        for (int block : blocks) {
            refusals.element("block " + block + " beside " + where, ledger -> query.of(ledger, block));
        }
        refusals.leaveAllAsItWas();
    }

    /** Each hill has an answer, and no other number has, with no hill up to four of them. */
    static void hill(Check check, Query query) {
        for (int hills = 0; hills <= 4; hills++) {
            int count = hills;
            Supplier<SnowLedger> made = () -> Ledgers.withHills(count);
            for (int hill = 0; hill < count; hill++) {
                int index = hill;
                check.due("hill " + index + " of " + count, true, () -> query.of(made.get(), index) != null);
            }
            Refusals refusals = Refusals.of(check, made);
            for (int hill : new int[] {-1, count, 4, 5, MIN, MAX}) {
                refusals.index("hill " + hill + " of " + count, ledger -> query.of(ledger, hill));
            }
            refusals.leaveAllAsItWas();
        }
        Refusals.of(check, Ledgers::wellUsed)
                .index("hill -1 beside blocks", ledger -> query.of(ledger, -1))
                .index("hill 4 beside blocks", ledger -> query.of(ledger, 4))
                .leaveAllAsItWas();
        SnowLedger ledger = Ledgers.withHills(3);
        ledger.undo();
        check.refused("an undone hill", IndexOutOfBoundsException.class, () -> query.of(ledger, 2));
    }
}
