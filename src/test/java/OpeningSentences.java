/** The sentences ahead of the other terms: those of 'What it is' and the first ones of 'Terms'. */
final class OpeningSentences {
    private static final String USED = "An object is used for at most 512 calls after it has been made; "
            + "what later calls answer is free.";
    private static final String OFFERS = "The class computes hashes and heights in two ways, and offers predictions, "
            + "rankings, a small command language, undo and a snapshot.";

    private OpeningSentences() {
    }

    // What it is

    @Sentence(of = "What it is", text = "A ledger of snow drifts, kept as a tree of blocks that name their "
            + "predecessors by hashes.")
    static void predecessorsAreNamedByHashes(Check check) {
        SnowLedger x = Ledgers.withHills(1);
        Ledgers.write(x, 0, 10);
        Ledgers.write(x, 0, 30);
        x.follow(0, 0);
        Ledgers.write(x, 0, 20);
        Ledgers.write(x, 0, 30);
        int first = Due.hash(1, 10, 0);
        int second = Due.hash(1, 20, 0);
        check.due("the predecessors differ", false, () -> first == second);
        check.due("the one block", Due.hash(first, 30, 0), () -> x.hashOf(2));
        check.due("alike upon another one", Due.hash(second, 30, 0), () -> x.hashOf(4));
        x.replaceFlake(1, 0, 20);
        x.repair(1);
        check.due("the predecessor has another hash", second, () -> x.hashOf(1));
        check.due("its successor names it no more", false, () -> x.isValid(2));
        check.due("the other one names its own", true, () -> x.isValid(4));
    }

    @Sentence(of = "What it is", text = USED)
    static void allCallsUpToThe512th(Check check) {
        check.due("the 512th: write", 256, () -> after511Calls().write(0));
        check.due("the 512th: writtenTotal", 255, () -> after511Calls().writtenTotal());
        check.due("the 512th: meltedTotal", 255, () -> after511Calls().meltedTotal());
        check.due("the 512th: blockCount", 1, () -> after511Calls().blockCount());
        check.due("the 512th: exists", false, () -> after511Calls().exists(255));
        check.due("the 512th: followed", 0, () -> after511Calls().followed(0));
        check.due("the 512th: isConsistent", true, () -> after511Calls().isConsistent());
        check.due("the 512th: undo", 7, () -> after511Calls().undo());
    }

    /** One hill, which wrote 255 blocks on the root that melted one after another. */
    private static SnowLedger after511Calls() {
        SnowLedger ledger = Ledgers.withHills(1);
        for (int i = 0; i < 255; i++) {
            ledger.melt(ledger.write(0));
        }
        return ledger;
    }

    @Sentence(of = "What it is", text = USED)
    static void changesAndUndoUpToThe512thCall(Check check) {
        SnowLedger x = Ledgers.withHills(1);
        x.write(0);
        for (int i = 1; i <= 500; i++) {
            x.follow(0, i % 2);
        }
        for (int left = 7; left >= 0; left--) {
            int due = left;
            check.due("undo with 502 changes behind it", due, () -> x.undo());
        }
        check.due("followed after 492 times", 0, () -> x.followed(0));
        check.refused("the 512th call", IllegalStateException.class, () -> x.undo());
    }

    @Sentence(of = "What it is", text = USED)
    static void refusedCallsUpToThe512th(Check check) {
        SnowLedger x = Ledgers.withHills(4);
        for (int i = 5; i <= 511; i++) {
            check.refused("call " + i, IllegalStateException.class, () -> x.addHill());
        }
        check.due("the 512th", 3, () -> x.undo());
    }

    @Sentence(of = "What it is", text = USED)
    static void scriptsUpToThe512thCall(Check check) {
        SnowLedger x = new SnowLedger();
        for (int round = 0; round < 8; round++) {
            Check.type(x, "mend 0".repeat(10));
            check.refused("script " + round, IllegalArgumentException.class, () -> x.runScript());
        }
        check.due("the 509th", 3, () -> Check.run(x, "hill;write 0,99;hill"));
        check.due("the 510th", 6, () -> x.errorPosition());
        String text = "1#" + Due.hash(1, 99, 0) + "<0h0,99";
        check.due("the 511th", text.length(), () -> x.renderBlock(1));
        check.due("the 512th", '9', () -> x.outputAt(text.length() - 1));
    }

    @Sentence(of = "What it is", text = USED)
    static void snapshotsUpToThe512thCall(Check check) {
        SnowLedger x = Ledgers.withHills(1);
        for (int i = 0; i < 170; i++) {
            x.save();
            x.write(0);
            x.restore();
        }
        check.due("the 512th", 1, () -> x.write(0));
    }

    // Terms

    @Sentence(of = "Terms", text = "Blocks contain snowflakes, branches can melt, the longest branch is found, flakes "
            + "are verified against the hashes of their blocks, and hills follow the tips of branches.")
    static void whatLedgersAreFor(Check check) {
        SnowLedger x = Ledgers.twoBranches();
        check.due("a block contains flakes", 20, () -> x.flakeAt(1, 1));
        check.due("the one hill follows its tip", 2, () -> x.followed(0));
        check.due("the other hill follows its tip", 4, () -> x.followed(1));
        check.due("a longer branch", 5, () -> x.write(1));
        check.due("the hill follows the new tip", 5, () -> x.followed(1));
        check.due("the longest branch is found by its tip", 5, () -> x.tipAtRank(0));
        check.due("the longest valid branch is found", 5, () -> x.bestValidBlock());
        x.replaceFlake(4, 0, 11);
        check.due("another flake is noticed", false, () -> x.isValid(4));
        check.due("it is the lowest one", 4, () -> x.firstInvalid(5));
        check.due("the longest valid branch is another one", 2, () -> x.bestValidBlock());
        x.replaceFlake(4, 0, 10);
        check.due("the flake itself is verified", true, () -> x.isBranchValid(5));
        check.due("a branch melts", 3, () -> x.melt(3));
        check.due("its hill follows what is left", 0, () -> x.followed(1));
        check.due("the longest branch is the other one", 2, () -> x.tipAtRank(0));
    }

    @Sentence(of = "Terms", text = OFFERS)
    static void twoWaysAgree(Check check) {
        for (int blocks = 1; blocks <= 15; blocks++) {
            SnowLedger x = blocks % 2 == 0 ? Ledgers.chain(blocks) : Ledgers.star(blocks);
            int last = blocks;
            check.due("heights of block " + last, x.heightOf(last), () -> x.heightFromRoot(last));
            check.due("height of block " + last, last % 2 == 0 ? last : 1, () -> x.heightOf(last));
        }
        int[][] lists = {{}, {99}, {99, 0}, {0, 99, 98}, {99, 98, 97, 96}};
        for (int[] flakes : lists) {
            SnowLedger x = Ledgers.withBlock(flakes);
            check.due("roots of " + flakes.length + " flakes", x.rootOfFlakes(1), () -> x.rootOfFlakesByHalves(1));
            check.due("root of " + flakes.length + " flakes", Due.root(flakes), () -> x.rootOfFlakes(1));
        }
    }

    @Sentence(of = "Terms", text = OFFERS)
    static void predictionsComeTrue(Check check) {
        SnowLedger x = Ledgers.twoBranches();
        for (int hill = 0; hill < 3; hill++) {
            int index = hill;
            int predicted = x.nextHash(index);
            check.due("nextHash of hill " + index, predicted, () -> x.hashOf(x.write(index)));
        }
        x.replaceFlake(1, 1, 21);
        int predicted = x.repairsNeeded(5);
        int repairs = 0;
        for (int block : new int[] {1, 2, 5}) {
            if (!x.isValid(block)) {
                x.repair(block);
                repairs++;
            }
        }
        int done = repairs;
        check.due("some repairs are needed", true, () -> predicted > 0);
        check.due("repairsNeeded", predicted, () -> done);
        check.due("no more are needed", 0, () -> x.repairsNeeded(5));
        int melting = x.meltSize(1);
        check.due("meltSize", melting, () -> x.melt(1));
    }

    @Sentence(of = "Terms", text = OFFERS)
    static void rankingsScriptsUndoAndSnapshot(Check check) {
        SnowLedger x = new SnowLedger();
        check.due("the snapshot of the root alone", 1, () -> x.save());
        check.due("a script", 5, () -> Check.run(x, "hill;write 0,1;follow 0 0;write 0,2;write 0"));
        check.due("the highest tip ranks first", 3, () -> x.tipAtRank(0));
        check.due("the lower tip ranks next", 1, () -> x.tipAtRank(1));
        check.due("the script is undone", 0, () -> x.undo());
        check.due("the root alone again", 1, () -> x.blockCount());
        x.addHill();
        check.due("the snapshot restored", 1, () -> x.restore());
        check.due("no hill was in it", 0, () -> x.hillCount());
    }
}
