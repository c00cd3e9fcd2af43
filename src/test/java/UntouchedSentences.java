/** The sentences of promises 2 to 8 once more: a change changes what it is for, and leaves the rest as it was. */
final class UntouchedSentences {
    private static final String WRITES = "Lets a hill write a block with all flakes that it has collected, "
            + "in the order in which it collected them.";
    private static final String REPAIRS = "Repairs a block: its nonce and its stored hash are computed anew, "
            + "as if it was added now.";
    private static final int FIRST_HASH = Due.hash(1, Due.root(10, 20), 1);
    private static final int SECOND_HASH = Due.hash(1, 30, 2);
    private static final String ROOT = " block 0#1";
    private static final String FIRST = block(1, 1, 0, 1, ",10,20", Due.root(10, 20));
    private static final String SECOND = block(2, 1, 0, 2, ",30", 30);
    private static final String HILL_0 = hill(1, 1, Due.hash(FIRST_HASH, 40, 0));
    private static final String HILL_1 = hill(1, 1, Due.hash(FIRST_HASH, 50, 1));
    private static final String HILL_2 = hill(2, 0, Due.hash(SECOND_HASH, 0, 2));

    private UntouchedSentences() {
    }

    /** A block as the picture shows it, with the hash and the nonce that it gets when it is added. */
    private static String block(int number, int parentHash, int parent, int writer, String flakes, int root) {
        return " block " + number + "#" + Due.hash(parentHash, root, writer) + "<" + parent + "h" + writer + "n"
                + Due.nonce(parentHash, root, writer) + flakes;
    }

    private static String hill(int followed, int collected, int nextHash) {
        return " hill " + followed + ":" + collected + ":" + nextHash;
    }

    private static void mixedAfter(Check check, String what, String due, LedgerCall call) {
        SnowLedger x = Ledgers.mixed();
        call.on(x);
        check.due("all after " + what, due, () -> Picture.state(x));
    }

    @Sentence(of = "Promise 2", text = "Adds a hill, which follows the root and has collected no flakes.")
    static void addHillLeavesTheRest(Check check) {
        mixedAfter(check, "no call", ROOT + FIRST + SECOND + HILL_0 + HILL_1 + HILL_2 + " totals 3 1", x -> 0);
        mixedAfter(check, "addHill", ROOT + FIRST + SECOND + HILL_0 + HILL_1 + HILL_2
                + hill(0, 0, Due.hash(1, 0, 3)) + " totals 3 1", x -> x.addHill());
    }

    @Sentence(of = "Promise 3", text = "Lets a hill collect a flake for the next block that it writes.")
    static void collectLeavesTheRest(Check check) {
        mixedAfter(check, "collect", ROOT + FIRST + SECOND + HILL_0
                + hill(1, 2, Due.hash(FIRST_HASH, Due.root(50, 60), 1)) + HILL_2
                + " totals 3 1", x -> x.collect(1, 60));
    }

    @Sentence(of = "Promise 4", text = WRITES)
    static void writeLeavesTheRest(Check check) {
        String written = block(4, FIRST_HASH, 1, 1, ",50", 50);
        int hash = Due.hash(FIRST_HASH, 50, 1);
        mixedAfter(check, "write", ROOT + FIRST + SECOND + written + HILL_0 + hill(4, 0, Due.hash(hash, 0, 1)) + HILL_2
                + " totals 4 1", x -> x.write(1));
    }

    @Sentence(of = "Promise 5", text = "Lets a hill follow another block.")
    static void followLeavesTheRest(Check check) {
        mixedAfter(check, "follow", ROOT + FIRST + SECOND + HILL_0 + hill(2, 1, Due.hash(SECOND_HASH, 50, 1)) + HILL_2
                + " totals 3 1", x -> x.follow(1, 2));
    }

    @Sentence(of = "Promise 6", text = "Melts a block.")
    static void meltLeavesTheRest(Check check) {
        mixedAfter(check, "melt", ROOT + SECOND + hill(0, 1, Due.hash(1, 40, 0)) + hill(0, 1, Due.hash(1, 50, 1))
                + HILL_2 + " totals 3 2", x -> x.melt(1));
    }

    @Sentence(of = "Promise 7", text = "Replaces a flake of a block.")
    static void replaceFlakeLeavesTheRest(Check check) {
        mixedAfter(check, "replaceFlake", ROOT + FIRST.replace(",10,20", ",10,21") + SECOND + HILL_0 + HILL_1 + HILL_2
                + " totals 3 1", x -> x.replaceFlake(1, 1, 21));
    }

    @Sentence(of = "Promise 8", text = REPAIRS)
    static void repairLeavesTheRest(Check check) {
        int hash = Due.hash(1, Due.root(10, 21), 1);
        mixedAfter(check, "repair", ROOT + block(1, 1, 0, 1, ",10,21", Due.root(10, 21)) + SECOND
                + hill(1, 1, Due.hash(hash, 40, 0)) + hill(1, 1, Due.hash(hash, 50, 1)) + HILL_2 + " totals 3 1", x -> {
            x.replaceFlake(1, 1, 21);
            return x.repair(1);
        });
    }
}
