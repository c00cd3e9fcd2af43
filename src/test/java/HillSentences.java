import java.util.NoSuchElementException;

/** The sentences of promises 36 to 45: hills, totals and shares. */
final class HillSentences {
    private HillSentences() {
    }

    // Promise 36

    @Sentence(of = "Promise 36", text = "Returns the number of hills.")
    static void countOfHills(Check check) {
        SnowLedger x = new SnowLedger();
        for (int hills = 0; hills <= 4; hills++) {
            int count = hills;
            check.due("hills", count, () -> x.hillCount());
            if (hills < 4) {
                x.addHill();
            }
        }
        check.refused("no fifth", IllegalStateException.class, () -> x.addHill());
        check.due("still four", 4, () -> x.hillCount());
        x.undo();
        check.due("one undone", 3, () -> x.hillCount());
        check.refused("a failed script", IllegalStateException.class, () -> Check.run(x, "hill;hill"));
        check.due("still three", 3, () -> x.hillCount());
        Check.run(x, "hill");
        check.due("by a script", 4, () -> x.hillCount());
    }

    // Promise 37

    @Sentence(of = "Promise 37", text = {"Returns the block that a hill follows.", "Returns the number of the block."})
    static void followedBlocks(Check check) {
        SnowLedger x = Ledgers.withHills(4);
        check.due("the root", 0, () -> x.followed(0) + x.followed(1) + x.followed(2) + x.followed(3));
        x.write(3);
        x.write(1);
        x.follow(2, 1);
        check.due("none yet", 0, () -> x.followed(0));
        check.due("its own block", 2, () -> x.followed(1));
        check.due("another's block", 1, () -> x.followed(2));
        check.due("its own block as well", 1, () -> x.followed(3));
        x.melt(1);
        check.due("the parent of a melted one", 0, () -> x.followed(2) + x.followed(3));
        x.undo();
        check.due("undone", 1, () -> x.followed(2));
        x.melt(1);
        x.melt(2);
        x.write(0);
        check.due("a number beyond those in the tree", 3, () -> x.followed(0));
    }

    @Sentence(of = "Promise 37", text = "Throws `IndexOutOfBoundsException` if there is no such hill")
    static void followedByNone(Check check) {
        Missing.hill(check, SnowLedger::followed);
    }

    // Promise 38

    @Sentence(of = "Promise 38", text = {"Returns the number of flakes that a hill has collected for its next block.",
        "Returns the number of flakes."})
    static void collectedFlakes(Check check) {
        SnowLedger x = Ledgers.withHills(4);
        for (int hill = 0; hill < 4; hill++) {
            int index = hill;
            for (int flakes = 0; flakes <= 4; flakes++) {
                int count = flakes;
                check.due(count + " by hill " + index, count, () -> x.collected(index));
                if (flakes < 4) {
                    x.collect(index, 9);
                }
            }
        }
        check.refused("no fifth", IllegalStateException.class, () -> x.collect(2, 9));
        check.due("still four", 4, () -> x.collected(2));
        x.write(2);
        check.due("written", 0, () -> x.collected(2));
        check.due("the others'", 12, () -> x.collected(0) + x.collected(1) + x.collected(3));
        x.undo();
        check.due("undone", 4, () -> x.collected(2));
    }

    @Sentence(of = "Promise 38", text = "Throws `IndexOutOfBoundsException` if there is no such hill")
    static void collectedByNone(Check check) {
        Missing.hill(check, SnowLedger::collected);
    }

    // Promise 39

    @Sentence(of = "Promise 39", text = {"Returns the number of blocks that a hill has written "
            + "and that are in the tree.", "Returns the number of blocks."})
    static void blocksByHills(Check check) {
        SnowLedger x = Ledgers.withHills(4);
        check.due("the root is by none", 0, () -> x.blocksBy(0) + x.blocksBy(1) + x.blocksBy(2) + x.blocksBy(3));
        for (int block = 1; block <= 15; block++) {
            int count = block;
            x.write(3);
            check.due("all by hill 3", count, () -> x.blocksBy(3));
        }
        check.due("none by the others", 0, () -> x.blocksBy(0) + x.blocksBy(1) + x.blocksBy(2));
        x.melt(13);
        check.due("without the melted", 12, () -> x.blocksBy(3));
        x.follow(0, 12);
        x.write(0);
        check.due("one by hill 0", 1, () -> x.blocksBy(0));
        x.follow(3, 16);
        check.due("following is not writing", 12, () -> x.blocksBy(3));
        x.melt(1);
        check.due("all melted", 0, () -> x.blocksBy(0) + x.blocksBy(3));
        x.undo();
        check.due("undone", 13, () -> x.blocksBy(0) + x.blocksBy(3));
    }

    @Sentence(of = "Promise 39", text = "Throws `IndexOutOfBoundsException` if there is no such hill")
    static void blocksByNone(Check check) {
        Missing.hill(check, SnowLedger::blocksBy);
    }

    // Promise 40

    @Sentence(of = "Promise 40", text = {"Predicts the stored hash of the block that a hill would write now, "
            + "without checking whether it can write a block.", "Returns the hash."})
    static void foretoldHash(Check check) {
        int[][] lists = {{}, {0}, {99, 0}, {3, 9, 3}, {4, 3, 2, 1}};
        SnowLedger x = Ledgers.withHills(4);
        for (int i = 0; i < 15; i++) {
            int hill = i % 4;
            for (int flake : lists[i % 5]) {
                x.collect(hill, flake);
            }
            x.follow(hill, i / 2);
            int foretold = x.nextHash(hill);
            check.due("foretold without writing", i + 1, () -> x.blockCount());
            check.due("foretold without using up flakes", lists[i % 5].length, () -> x.collected(hill));
            int block = x.write(hill);
            check.due("hash of " + block, foretold, () -> x.hashOf(block));
        }
    }

    @Sentence(of = "Promise 40", text = "Predicts the stored hash of the block that a hill would write now, "
            + "without checking whether it can write a block.")
    static void foretoldHashOfWhatCannotBeWritten(Check check) {
        SnowLedger full = Ledgers.chain(15);
        full.collect(0, 6);
        check.due("in a full tree", Due.hash(full.hashOf(15), 6, 0), () -> full.nextHash(0));
        SnowLedger x = Ledgers.withBlock(7);
        x.replaceFlake(1, 0, 8);
        x.collect(0, 6);
        check.due("on an invalid block", Due.hash(Due.hash(1, 7, 0), 6, 0), () -> x.nextHash(0));
        x.repair(1);
        check.due("on the repaired block", Due.hash(Due.hash(1, 8, 0), 6, 0), () -> x.nextHash(0));
    }

    @Sentence(of = "Promise 40", text = "Throws `IndexOutOfBoundsException` if there is no such hill")
    static void foretoldHashOfNone(Check check) {
        Missing.hill(check, SnowLedger::nextHash);
    }

    // Promises 41 and 42

    @Sentence(of = "Promise 41", text = {"Returns how many blocks have been written so far.",
        "Returns the number of blocks."})
    static void writtenSoFar(Check check) {
        check.due("none", 0, () -> new SnowLedger().writtenTotal());
        SnowLedger x = Ledgers.chain(15);
        check.due("fifteen", 15, () -> x.writtenTotal());
        check.refused("full", IllegalStateException.class, () -> x.write(0));
        check.due("a refused one does not count", 15, () -> x.writtenTotal());
        x.melt(1);
        check.due("melted ones count", 15, () -> x.writtenTotal());
        x.write(0);
        check.due("one more", 16, () -> x.writtenTotal());
        x.undo();
        check.due("undone", 15, () -> x.writtenTotal());
        check.due("by a script", 3, () -> Check.run(x, "write 0,1;write 0;melt 16"));
        check.due("two more", 17, () -> x.writtenTotal());
        check.refused("a failed script", IllegalStateException.class, () -> Check.run(x, "write 0;write 1"));
        check.due("a failed script's do not count", 17, () -> x.writtenTotal());
        x.undo();
        check.due("the script undone", 15, () -> x.writtenTotal());
    }

    @Sentence(of = "Promise 42", text = {"Returns how many blocks have been removed by melting so far.",
        "Returns the number of blocks."})
    static void meltedSoFar(Check check) {
        check.due("none", 0, () -> new SnowLedger().meltedTotal());
        SnowLedger x = Ledgers.chain(15);
        check.due("none of fifteen", 0, () -> x.meltedTotal());
        x.melt(15);
        check.due("one", 1, () -> x.meltedTotal());
        x.melt(5);
        check.due("ten more", 11, () -> x.meltedTotal());
        check.refused("the root", IllegalArgumentException.class, () -> x.melt(0));
        check.refused("melted already", NoSuchElementException.class, () -> x.melt(15));
        check.due("refused ones do not count", 11, () -> x.meltedTotal());
        x.undo();
        check.due("undone", 1, () -> x.meltedTotal());
        x.undo();
        check.due("all undone", 0, () -> x.meltedTotal());
        x.undo();
        check.due("an undone block is not melted", 0, () -> x.meltedTotal());
        check.due("by a script", 2, () -> Check.run(x, "melt 14;melt 2"));
        check.due("thirteen", 13, () -> x.meltedTotal());
        check.refused("a failed script", IllegalStateException.class, () -> Check.run(x, "melt 1;melt 1"));
        check.due("a failed script's do not count", 13, () -> x.meltedTotal());
    }

    // Promise 43

    @Sentence(of = "Promise 43", text = {"Returns the mean height of the tips: "
            + "the sum of the heights divided by the number of tips, both converted to double.",
        "Returns the mean height."})
    static void meanHeightOfTips(Check check) {
        check.due("the root alone", 0.0, () -> new SnowLedger().meanTipHeight());
        check.due("a chain", 15.0, () -> Ledgers.chain(15).meanTipHeight());
        check.due("a star", 1.0, () -> Ledgers.star(15).meanTipHeight());
        for (int height = 1; height <= 12; height++) {
            int high = height;
            check.due("heights " + high + ", 1 and 1", (high + 2.0) / 3.0, () -> {
                SnowLedger x = Ledgers.chain(high);
                x.follow(0, 0);
                x.write(0);
                x.follow(0, 0);
                x.write(0);
                return x.meanTipHeight();
            });
        }
        SnowLedger x = Ledgers.chain(3);
        x.follow(0, 2);
        x.write(0);
        x.follow(0, 0);
        x.write(0);
        check.due("heights 3, 3 and 1", 7.0 / 3.0, () -> x.meanTipHeight());
        x.replaceFlake(3, 0, 8);
        check.due("invalid tips count", 7.0 / 3.0, () -> x.meanTipHeight());
        x.melt(2);
        check.due("heights 1 and 1", 1.0, () -> x.meanTipHeight());
    }

    // Promise 44

    @Sentence(of = "Promise 44", text = {"Returns the share of valid blocks among all blocks in the tree, "
            + "both numbers converted to float.", "Returns the share."})
    static void shareOfValidBlocks(Check check) {
        check.due("the root alone", 1.0f, () -> new SnowLedger().validShare());
        for (int blocks = 1; blocks <= 15; blocks++) {
            SnowLedger x = Ledgers.star(blocks);
            float all = blocks + 1;
            check.due("all", 1.0f, () -> x.validShare());
            for (int block = 1; block <= blocks; block++) {
                float valid = all - block;
                x.replaceFlake(block, 0, 8);
                check.due(valid + " of " + all, valid / all, () -> x.validShare());
            }
        }
        SnowLedger x = Ledgers.chain(2);
        x.replaceFlake(1, 0, 8);
        check.due("two of three", 2.0f / 3.0f, () -> x.validShare());
        x.repair(1);
        check.due("the child is invalid instead", 2.0f / 3.0f, () -> x.validShare());
        x.melt(2);
        check.due("two of two", 1.0f, () -> x.validShare());
    }

    // Promise 45

    @Sentence(of = "Promise 45", text = {"""
            Checks the state: both ways to compute heights and both ways to compute roots of flakes agree for all
            blocks, writtenTotal is meltedTotal plus the number of blocks besides the root, and every stored hash
            besides that of the root is 0 modulo 4.""", "Returns true if all of this holds."})
    static void consistentInEachState(Check check) {
        check.due("new", true, () -> new SnowLedger().isConsistent());
        check.due("a hill alone", true, () -> Ledgers.withHills(1).isConsistent());
        check.due("a chain", true, () -> Ledgers.chain(15).isConsistent());
        check.due("a star", true, () -> Ledgers.star(15).isConsistent());
        check.due("well used", true, () -> Ledgers.wellUsed().isConsistent());
        SnowLedger x = Ledgers.withBlock(1, 2, 3);
        Ledgers.write(x, 0, 1, 2, 3, 4);
        consistent(check, "three and four flakes", x);
        x.replaceFlake(1, 0, 9);
        consistent(check, "tampered", x);
        x.repair(1);
        consistent(check, "repaired", x);
        x.undo();
        consistent(check, "undone", x);
        x.save();
        x.melt(1);
        consistent(check, "melted", x);
        x.write(0);
        consistent(check, "in a melted one's room", x);
        x.restore();
        consistent(check, "restored", x);
    }

    private static void consistent(Check check, String what, SnowLedger x) {
        check.due(what, true, () -> x.isConsistent());
        int blocks = x.blockCount();
        check.due(what + ", totals", x.meltedTotal() + blocks - 1, () -> x.writtenTotal());
        for (int block = 0; block < 24; block++) {
            int number = block;
            if (x.exists(number)) {
                check.due("heights of " + number, x.heightOf(number), () -> x.heightFromRoot(number));
                check.due("roots of " + number, x.rootOfFlakes(number), () -> x.rootOfFlakesByHalves(number));
                check.due("hash of " + number, number == 0 ? 1 : 0, () -> x.hashOf(number) % 4);
            }
        }
    }
}
