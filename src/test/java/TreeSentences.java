import java.util.Arrays;
import java.util.NoSuchElementException;

/** The sentences of promises 25 to 35: branches, tips and flakes of the whole tree. */
final class TreeSentences {
    private static final String RANKS = """
            Returns the tip at a rank when tips are sorted by height in descending order, then by stored hash in
            ascending order, then by number in ascending order.""";
    private static final String FORETELLS_REPAIRS = """
            Predicts how many blocks of a branch would be repaired if its blocks were considered from the root upwards
            and each block that is not valid at that moment was repaired.""";
    private static final String BEST = """
            Returns the best valid block: the block with the greatest height among all blocks whose branches are valid,
            and among several such blocks the one with the smallest stored hash, and then the one with the lowest
            number.""";
    private static final int MIN = Integer.MIN_VALUE;
    private static final int MAX = Integer.MAX_VALUE;

    private TreeSentences() {
    }

    /** On the root 1 and 5; on 1 stand 2 and 4, on 2 stands 3, on 4 stand 6 and 7. */
    private static SnowLedger fork() {
        SnowLedger ledger = Ledgers.withHills(2);
        ledger.write(0);
        ledger.write(0);
        ledger.write(0);
        ledger.follow(0, 1);
        ledger.write(0);
        ledger.write(1);
        ledger.write(0);
        ledger.follow(0, 4);
        ledger.write(0);
        return ledger;
    }

    // Promise 25

    @Sentence(of = "Promise 25", text = {"Returns whether a block belongs to the branch of another one.",
        "Returns true if the first block belongs to the branch of the second one."})
    static void blocksOfBranches(Check check) {
        int[][] branches = {{0}, {1, 0}, {2, 1, 0}, {3, 2, 1, 0}, {4, 1, 0}, {5, 0}, {6, 4, 1, 0}, {7, 4, 1, 0}};
        SnowLedger x = fork();
        for (int block = 0; block < branches.length; block++) {
            for (int other = 0; other < branches.length; other++) {
                int high = block;
                int low = other;
                boolean due = Arrays.stream(branches[block]).anyMatch(number -> number == low);
                check.due(low + " in the branch of " + high, due, () -> x.isInBranch(low, high));
            }
        }
        SnowLedger y = Ledgers.chain(15);
        check.due("the root and the highest", true, () -> y.isInBranch(0, 15));
        check.due("turned", false, () -> y.isInBranch(15, 0));
    }

    @Sentence(of = "Promise 25", text = "`block`: the number of the other block, which can be the same")
    static void blocksOfTheirOwnBranches(Check check) {
        SnowLedger x = Ledgers.chain(15);
        for (int block = 0; block <= 15; block++) {
            int number = block;
            check.due(number + " and itself", true, () -> x.isInBranch(number, number));
        }
    }

    @Sentence(of = "Promise 25", text = "Throws `NoSuchElementException` if there is no such block in the tree, "
            + "for either argument")
    static void branchWithNone(Check check) {
        Missing.block(check, (x, block) -> x.isInBranch(block, 0));
        Missing.block(check, (x, block) -> x.isInBranch(0, block));
        Missing.block(check, (x, block) -> x.isInBranch(block, block));
    }

    // Promise 26

    @Sentence(of = "Promise 26", text = {"Returns the fork of two blocks: the block with the greatest height "
            + "that belongs to the branches of both.", "Returns the number of the fork."})
    static void forks(Check check) {
        int[][] due = {
            {0, 0, 0, 0, 0, 0, 0, 0}, {0, 1, 1, 1, 1, 0, 1, 1}, {0, 1, 2, 2, 1, 0, 1, 1}, {0, 1, 2, 3, 1, 0, 1, 1},
            {0, 1, 1, 1, 4, 0, 4, 4}, {0, 0, 0, 0, 0, 5, 0, 0}, {0, 1, 1, 1, 4, 0, 6, 4}, {0, 1, 1, 1, 4, 0, 4, 7}};
        SnowLedger x = fork();
        for (int first = 0; first < 8; first++) {
            for (int second = 0; second < 8; second++) {
                int one = first;
                int other = second;
                check.due(one + " and " + other, due[one][other], () -> x.forkOf(one, other));
            }
        }
        SnowLedger y = Ledgers.chain(15);
        check.due("the root and the highest", 0, () -> y.forkOf(0, 15) + y.forkOf(15, 0));
        check.due("the two highest", 14, () -> y.forkOf(14, 15));
        y.melt(15);
        y.follow(0, 13);
        y.write(0);
        check.due("below the highest", 13, () -> y.forkOf(14, 16));
    }

    @Sentence(of = "Promise 26", text = "`second`: the number of the other block, which can be the same")
    static void forkWithItself(Check check) {
        SnowLedger x = Ledgers.chain(15);
        for (int block = 0; block <= 15; block++) {
            int number = block;
            check.due(number + " and itself", number, () -> x.forkOf(number, number));
        }
    }

    @Sentence(of = "Promise 26", text = "Throws `NoSuchElementException` if there is no such block in the tree, "
            + "for either argument")
    static void forkWithNone(Check check) {
        Missing.block(check, (x, block) -> x.forkOf(block, 0));
        Missing.block(check, (x, block) -> x.forkOf(0, block));
        Missing.block(check, (x, block) -> x.forkOf(block, block));
    }

    // Promise 27

    @Sentence(of = "Promise 27", text = {"Returns how many blocks would be removed if a block melted.",
        "Returns the number of blocks, including the block itself."})
    static void sizesOfMelting(Check check) {
        int[] due = {8, 6, 2, 1, 3, 1, 1, 1};
        for (int block = 0; block < due.length; block++) {
            int number = block;
            SnowLedger x = fork();
            check.due(number + " of a fork", due[number], () -> x.meltSize(number));
            check.due("none is removed", 8, () -> x.blockCount());
            if (number > 0) {
                check.due("as many are removed then", due[number], () -> x.melt(number));
            }
        }
        SnowLedger chain = Ledgers.chain(15);
        SnowLedger star = Ledgers.star(15);
        for (int block = 0; block <= 15; block++) {
            int number = block;
            check.due(number + " of a chain", 16 - number, () -> chain.meltSize(number));
            check.due(number + " of a star", number == 0 ? 16 : 1, () -> star.meltSize(number));
        }
        check.due("the root alone", 1, () -> new SnowLedger().meltSize(0));
        SnowLedger y = Ledgers.twoBranches();
        y.melt(2);
        check.due("without the melted one", 1, () -> y.meltSize(1));
        check.due("all without the melted one", 4, () -> y.meltSize(0));
    }

    @Sentence(of = "Promise 27", text = "Throws `NoSuchElementException` if there is no such block in the tree")
    static void sizeOfMeltingNone(Check check) {
        Missing.block(check, SnowLedger::meltSize);
    }

    // Promise 28

    @Sentence(of = "Promise 28", text = "Returns the number of tips.")
    static void countOfTips(Check check) {
        check.due("the root alone", 1, () -> new SnowLedger().tipCount());
        for (int blocks = 1; blocks <= 15; blocks++) {
            int count = blocks;
            check.due("a chain of " + count, 1, () -> Ledgers.chain(count).tipCount());
            check.due("a star of " + count, count, () -> Ledgers.star(count).tipCount());
        }
        SnowLedger x = fork();
        check.due("3, 5, 6 and 7", 4, () -> x.tipCount());
        x.melt(3);
        check.due("2, 5, 6 and 7", 4, () -> x.tipCount());
        x.melt(2);
        check.due("5, 6 and 7", 3, () -> x.tipCount());
        x.melt(1);
        check.due("5", 1, () -> x.tipCount());
        x.melt(5);
        check.due("0", 1, () -> x.tipCount());
    }

    // Promise 29

    @Sentence(of = "Promise 29", text = {RANKS, "Returns the number of the tip."})
    static void rankedByHeight(Check check) {
        SnowLedger x = fork();
        x.follow(1, 5);
        x.write(1);
        x.write(1);
        x.write(1);
        x.follow(0, 0);
        x.write(0);
        int[] heights = {4, 3, 3, 3, 1};
        for (int rank = 0; rank < heights.length; rank++) {
            int at = rank;
            check.due("height at rank " + at, heights[at], () -> x.heightOf(x.tipAtRank(at)));
        }
        check.due("the highest", 10, () -> x.tipAtRank(0));
        check.due("the lowest", 11, () -> x.tipAtRank(4));
    }

    /** The hashes on the root are 64, 92, 120 and 148 with the flakes 0, 1, 2 and 3. */
    @Sentence(of = "Promise 29", text = RANKS)
    static void rankedByHash(Check check) {
        SnowLedger x = Ledgers.withHills(1);
        for (int flake : new int[] {2, 0, 3, 1}) {
            x.follow(0, 0);
            Ledgers.write(x, 0, flake);
        }
        ranks(check, "by hash", x, 2, 4, 1, 3);
        x.replaceFlake(2, 0, 50);
        ranks(check, "by stored hash", x, 2, 4, 1, 3);
        x.repair(2);
        ranks(check, "by the repaired hash", x, 4, 1, 3, 2);
        Ledgers.write(x, 0, 99);
        ranks(check, "by height first", x, 5, 1, 3, 2);
    }

    @Sentence(of = "Promise 29", text = RANKS)
    static void rankedByNumber(Check check) {
        SnowLedger x = Ledgers.star(15);
        ranks(check, "of a star", x, 1, 2, 3, 4, 5, 6, 7, 8, 9, 10, 11, 12, 13, 14, 15);
        x.melt(4);
        x.melt(1);
        x.follow(0, 0);
        Ledgers.write(x, 0, 7);
        x.follow(0, 0);
        Ledgers.write(x, 0, 7);
        ranks(check, "in melted ones' rooms", x, 2, 3, 5, 6, 7, 8, 9, 10, 11, 12, 13, 14, 15, 16, 17);
    }

    private static void ranks(Check check, String what, SnowLedger x, int... tips) {
        for (int rank = 0; rank < tips.length; rank++) {
            int at = rank;
            check.due(what + ", rank " + at, tips[at], () -> x.tipAtRank(at));
        }
    }

    @Sentence(of = "Promise 29", text = {"Throws `NoSuchElementException` if there is no such rank",
        "`rank`: the rank, counted from 0"})
    static void noRank(Check check) {
        for (int blocks : new int[] {0, 1, 2, 14, 15}) {
            int tips = Math.max(1, blocks);
            check.due("the first of " + tips, true, () -> Ledgers.star(blocks).tipAtRank(0) >= 0);
            check.due("the last of " + tips, blocks, () -> Ledgers.star(blocks).tipAtRank(tips - 1));
            Refusals.of(check, () -> Ledgers.star(blocks))
                    .element("rank -1 of " + tips, x -> x.tipAtRank(-1))
                    .element("rank n of " + tips, x -> x.tipAtRank(tips))
                    .element("rank 16 of " + tips, x -> x.tipAtRank(16))
                    .element("the least rank of " + tips, x -> x.tipAtRank(MIN))
                    .element("the greatest rank of " + tips, x -> x.tipAtRank(MAX))
                    .leaveAllAsItWas();
        }
        Refusals.of(check, () -> Ledgers.chain(15)).element("rank 1 of a chain", x -> x.tipAtRank(1)).leaveAllAsItWas();
    }

    // Promise 30

    @Sentence(of = "Promise 30", text = {BEST, "Returns the number of the block."})
    static void bestByHeight(Check check) {
        check.due("the root alone", 0, () -> new SnowLedger().bestValidBlock());
        for (int blocks = 1; blocks <= 15; blocks++) {
            int count = blocks;
            check.due("a chain of " + count, count, () -> Ledgers.chain(count).bestValidBlock());
            SnowLedger x = Ledgers.chain(15);
            x.replaceFlake(count, 0, 8);
            check.due("a chain with invalid " + count, count - 1, () -> x.bestValidBlock());
        }
    }

    @Sentence(of = "Promise 30", text = BEST)
    static void bestByHashThenNumber(Check check) {
        SnowLedger x = Ledgers.withHills(1);
        for (int flake : new int[] {2, 0, 3, 1, 0}) {
            x.follow(0, 0);
            Ledgers.write(x, 0, flake);
        }
        check.due("the smallest hash, the lowest number", 2, () -> x.bestValidBlock());
        x.replaceFlake(2, 0, 9);
        check.due("the same hash, the next number", 5, () -> x.bestValidBlock());
        x.replaceFlake(5, 0, 9);
        check.due("the next hash", 4, () -> x.bestValidBlock());
        x.melt(4);
        check.due("after a melt", 1, () -> x.bestValidBlock());
        SnowLedger y = Ledgers.star(3);
        y.melt(1);
        y.follow(0, 0);
        Ledgers.write(y, 0, 7);
        check.due("the lowest number, though another has a melted one's room", 2, () -> y.bestValidBlock());
    }

    @Sentence(of = "Promise 30", text = "It need not be a tip.")
    static void bestIsNoTip(Check check) {
        SnowLedger x = Ledgers.chain(3);
        x.replaceFlake(3, 0, 8);
        check.due("below an invalid tip", 2, () -> x.bestValidBlock());
        x.replaceFlake(1, 0, 8);
        check.due("the root below all", 0, () -> x.bestValidBlock());
        SnowLedger y = Ledgers.twoBranches();
        y.replaceFlake(1, 0, 11);
        y.replaceFlake(4, 0, 11);
        check.due("valid 2 on invalid 1 does not count", 3, () -> y.bestValidBlock());
    }

    // Promise 31

    @Sentence(of = "Promise 31", text = {"Returns the block in which a flake occurs.",
        "Returns the number of the block."})
    static void blockOfFlake(Check check) {
        SnowLedger x = Ledgers.withBlock(0, 1, 2, 3);
        Ledgers.write(x, 0, 96, 97, 98, 99);
        for (int i = 0; i < 4; i++) {
            int at = i;
            check.due("flake " + at, 1, () -> x.blockWith(at));
            check.due("flake " + (96 + at), 2, () -> x.blockWith(96 + at));
        }
        x.replaceFlake(1, 3, 50);
        check.due("a new flake", 1, () -> x.blockWith(50));
        x.undo();
        check.due("its old flake", 1, () -> x.blockWith(3));
    }

    @Sentence(of = "Promise 31", text = "Among several such blocks it is the one with the least height, "
            + "and then the one with the lowest number.")
    static void lowestBlockOfFlake(Check check) {
        SnowLedger x = Ledgers.chain(15);
        check.due("the lowest of a chain", 1, () -> x.blockWith(7));
        SnowLedger y = Ledgers.star(15);
        check.due("the first of a star", 1, () -> y.blockWith(7));
        y.melt(1);
        y.follow(0, 0);
        Ledgers.write(y, 0, 7);
        check.due("the lowest number, though another has a melted one's room", 2, () -> y.blockWith(7));
        SnowLedger z = Ledgers.withHills(1);
        z.write(0);
        Ledgers.write(z, 0, 7);
        z.follow(0, 0);
        check.due("later", 3, () -> Ledgers.write(z, 0, 7));
        check.due("the least height, though a greater number", 3, () -> z.blockWith(7));
    }

    @Sentence(of = "Promise 31", text = "Throws `IllegalArgumentException` if flake is not between 0 and 99")
    static void blockOfNoFlake(Check check) {
        check.due("0", 1, () -> Ledgers.withBlock(0, 99).blockWith(0));
        check.due("99", 1, () -> Ledgers.withBlock(0, 99).blockWith(99));
        Refusals.of(check, () -> Ledgers.withBlock(0, 99))
                .argument("-1", x -> x.blockWith(-1))
                .argument("100", x -> x.blockWith(100))
                .argument("the least number", x -> x.blockWith(MIN))
                .argument("the greatest number", x -> x.blockWith(MAX))
                .leaveAllAsItWas();
    }

    @Sentence(of = "Promise 31", text = "Throws `NoSuchElementException` if no block contains the flake")
    static void flakeOfNoBlock(Check check) {
        Refusals.of(check, SnowLedger::new)
                .element("0 in no block", x -> x.blockWith(0))
                .element("99 in no block", x -> x.blockWith(99))
                .leaveAllAsItWas();
        Refusals.of(check, Ledgers::twoBranches)
                .element("collected only", x -> x.blockWith(5))
                .element("0 beside empty places", x -> x.blockWith(0))
                .leaveAllAsItWas();
        Refusals.of(check, Ledgers::meltedBranch)
                .element("melted", x -> x.blockWith(20))
                .element("melted as well", x -> x.blockWith(30))
                .leaveAllAsItWas();
        SnowLedger x = Ledgers.withBlock(5);
        x.replaceFlake(1, 0, 6);
        check.refused("replaced", NoSuchElementException.class, () -> x.blockWith(5));
        x.undo();
        x.undo();
        check.refused("the block undone", NoSuchElementException.class, () -> x.blockWith(5));
        SnowLedger y = Ledgers.withBlock(1, 2, 3, 4);
        y.melt(1);
        Ledgers.write(y, 0, 9);
        check.refused("left in a melted one's room", NoSuchElementException.class, () -> y.blockWith(2));
    }

    // Promise 32

    @Sentence(of = "Promise 32", text = {"Returns the number of blocks of a height.",
        "Returns the number of blocks."})
    static void countsAtHeights(Check check) {
        counts(check, "the root alone", new SnowLedger(), 1);
        counts(check, "a fork", fork(), 1, 2, 2, 3);
        counts(check, "a chain", Ledgers.chain(15), 1, 1, 1, 1, 1, 1, 1, 1, 1, 1, 1, 1, 1, 1, 1, 1);
        counts(check, "a star", Ledgers.star(15), 1, 15);
        SnowLedger x = fork();
        x.melt(4);
        counts(check, "after a melt", x, 1, 2, 1, 1);
        x.melt(1);
        x.melt(5);
        counts(check, "all melted", x, 1);
    }

    private static void counts(Check check, String what, SnowLedger x, int... due) {
        for (int height = 0; height <= 15; height++) {
            int at = height;
            check.due(what + " at " + at, at < due.length ? due[at] : 0, () -> x.blocksAtHeight(at));
        }
    }

    @Sentence(of = "Promise 32", text = "Throws `IllegalArgumentException` if height is not between 0 and 15")
    static void noHeight(Check check) {
        check.due("0", 1, () -> Ledgers.chain(15).blocksAtHeight(0));
        check.due("15", 1, () -> Ledgers.chain(15).blocksAtHeight(15));
        check.due("15 beside the root alone", 0, () -> new SnowLedger().blocksAtHeight(15));
        for (int blocks : new int[] {0, 15}) {
            Refusals.of(check, () -> Ledgers.chain(blocks))
                    .argument("-1", x -> x.blocksAtHeight(-1))
                    .argument("16", x -> x.blocksAtHeight(16))
                    .argument("the least number", x -> x.blocksAtHeight(MIN))
                    .argument("the greatest number", x -> x.blocksAtHeight(MAX))
                    .leaveAllAsItWas();
        }
    }

    // Promise 33

    @Sentence(of = "Promise 33", text = {"Returns how many different flakes occur in the blocks of a branch.",
        "Returns the number of flakes."})
    static void differentFlakes(Check check) {
        check.due("the root", 0, () -> new SnowLedger().differentFlakes(0));
        check.due("no flakes", 0, () -> Ledgers.withBlock().differentFlakes(1));
        check.due("one four times", 1, () -> Ledgers.withBlock(5, 5, 5, 5).differentFlakes(1));
        check.due("four", 4, () -> Ledgers.withBlock(0, 1, 98, 99).differentFlakes(1));
        check.due("the same in each block", 1, () -> Ledgers.chain(15).differentFlakes(15));
        SnowLedger x = Ledgers.twoBranches();
        check.due("of two blocks", 4, () -> x.differentFlakes(2));
        check.due("not of the block above", 3, () -> x.differentFlakes(1));
        check.due("not of the other branch", 2, () -> x.differentFlakes(4));
        check.due("not of the blocks above the root", 0, () -> x.differentFlakes(0));
        x.replaceFlake(1, 2, 40);
        check.due("in two blocks", 3, () -> x.differentFlakes(2));
        SnowLedger most = sixtyFlakes();
        check.due("sixty, the most", 60, () -> most.differentFlakes(15));
        check.due("four", 4, () -> most.differentFlakes(1));
    }

    /** A chain of 15 blocks with four flakes each, all different: 99, 98 and so on down to 40. */
    private static SnowLedger sixtyFlakes() {
        SnowLedger ledger = Ledgers.withHills(1);
        for (int flake = 99; flake > 40; flake -= 4) {
            Ledgers.write(ledger, 0, flake, flake - 1, flake - 2, flake - 3);
        }
        return ledger;
    }

    @Sentence(of = "Promise 33", text = "Throws `NoSuchElementException` if there is no such block in the tree")
    static void differentFlakesOfNone(Check check) {
        Missing.block(check, SnowLedger::differentFlakes);
    }

    // Promise 34

    @Sentence(of = "Promise 34", text = {"Returns how many different flakes occur both in the blocks of one branch "
            + "and in the blocks of another branch.", "Returns the number of flakes."})
    static void commonFlakes(Check check) {
        SnowLedger x = Ledgers.twoBranches();
        int[][] due = {{0, 0, 0, 0, 0}, {0, 3, 3, 0, 1}, {0, 3, 4, 0, 2}, {0, 0, 0, 0, 0}, {0, 1, 2, 0, 2}};
        for (int first = 0; first < 5; first++) {
            for (int second = 0; second < 5; second++) {
                int one = first;
                int other = second;
                check.due(one + " and " + other, due[one][other], () -> x.commonFlakes(one, other));
            }
        }
        x.replaceFlake(4, 0, 99);
        check.due("present flakes", 1, () -> x.commonFlakes(2, 4));
        x.replaceFlake(4, 1, 0);
        check.due("none", 0, () -> x.commonFlakes(2, 4));
        x.replaceFlake(1, 0, 0);
        x.replaceFlake(1, 1, 0);
        x.replaceFlake(2, 0, 99);
        check.due("0 and 99, each once", 2, () -> x.commonFlakes(2, 4));
    }

    @Sentence(of = "Promise 34", text = "`second`: the number of the block of the other branch, which can be the same")
    static void commonFlakesWithItself(Check check) {
        check.due("the root", 0, () -> new SnowLedger().commonFlakes(0, 0));
        check.due("equal flakes", 1, () -> Ledgers.withBlock(5, 5).commonFlakes(1, 1));
        check.due("sixty, the most", 60, () -> sixtyFlakes().commonFlakes(15, 15));
    }

    @Sentence(of = "Promise 34", text = "Throws `NoSuchElementException` if there is no such block in the tree, "
            + "for either argument")
    static void commonFlakesWithNone(Check check) {
        Missing.block(check, (x, block) -> x.commonFlakes(block, 0));
        Missing.block(check, (x, block) -> x.commonFlakes(0, block));
        Missing.block(check, (x, block) -> x.commonFlakes(block, block));
    }

    // Promise 35

    @Sentence(of = "Promise 35", text = {FORETELLS_REPAIRS, "Returns the number of repairs."})
    static void repairsOfChains(Check check) {
        check.due("the root alone", 0, () -> new SnowLedger().repairsNeeded(0));
        SnowLedger valid = Ledgers.chain(15);
        check.due("a valid chain", 0, () -> valid.repairsNeeded(15));
        for (int block = 1; block <= 15; block++) {
            int broken = block;
            SnowLedger x = Ledgers.chain(15);
            x.replaceFlake(broken, 0, 8);
            check.due("below invalid " + broken, 0, () -> x.repairsNeeded(broken - 1));
            check.due("invalid " + broken + " itself", 1, () -> x.repairsNeeded(broken));
            int foretold = x.repairsNeeded(15);
            check.due("none is repaired", broken, () -> x.firstInvalid(15));
            check.due("repaired in truth with invalid " + broken, repairs(x, 15), () -> foretold);
        }
    }

    /** Repairs what is invalid in a chain, from the root upwards, and counts it. */
    private static int repairs(SnowLedger x, int last) {
        int repairs = 0;
        for (int block = 1; block <= last; block++) {
            if (!x.isValid(block)) {
                x.repair(block);
                repairs++;
            }
        }
        return repairs;
    }

    @Sentence(of = "Promise 35", text = FORETELLS_REPAIRS)
    static void repairsThatMendOrBreakChildren(Check check) {
        SnowLedger x = Ledgers.withBlock(10);
        x.write(0);
        x.replaceFlake(1, 0, 11);
        check.due("the valid child breaks", 2, () -> x.repairsNeeded(2));
        x.repair(1);
        x.replaceFlake(1, 0, 10);
        check.due("both are invalid", false, () -> x.isValid(1) || x.isValid(2));
        check.due("the child is valid by the repair below", 1, () -> x.repairsNeeded(2));
        SnowLedger y = Ledgers.withBlock(10, 40);
        y.write(0);
        y.write(0);
        y.replaceFlake(1, 0, 1);
        y.replaceFlake(1, 1, 18);
        check.due("the repaired has the same hash", 1, () -> y.repairsNeeded(3));
    }

    @Sentence(of = "Promise 35", text = FORETELLS_REPAIRS)
    static void repairsOfOneBranchAlone(Check check) {
        SnowLedger x = Ledgers.twoBranches();
        x.replaceFlake(1, 0, 11);
        x.replaceFlake(4, 0, 11);
        check.due("the one branch", 2, () -> x.repairsNeeded(2));
        check.due("the other branch", 1, () -> x.repairsNeeded(4));
        check.due("below the invalid one", 0, () -> x.repairsNeeded(3));
        check.due("the root", 0, () -> x.repairsNeeded(0));
        x.replaceFlake(2, 0, 41);
        check.due("two invalid ones", 2, () -> x.repairsNeeded(2));
        SnowLedger y = Ledgers.star(2);
        y.melt(1);
        Ledgers.write(y, 0, 7);
        y.replaceFlake(2, 0, 8);
        check.due("a child in a melted one's room", 2, () -> y.repairsNeeded(3));
    }

    @Sentence(of = "Promise 35", text = FORETELLS_REPAIRS)
    static void repairsOfOtherHillsBlocks(Check check) {
        for (int hill = 0; hill < 4; hill++) {
            int writer = hill;
            SnowLedger x = Ledgers.withHills(4);
            for (int block = 1; block <= 3; block++) {
                Ledgers.write(x, writer, 7);
            }
            check.due("valid, by hill " + writer, 0, () -> x.repairsNeeded(3));
            x.replaceFlake(1, 0, 8);
            x.repair(1);
            x.replaceFlake(1, 0, 7);
            String before = Picture.state(x);
            check.due("the first by hill " + writer + " mends the second", 1, () -> x.repairsNeeded(3));
            check.due("none is repaired", before, () -> Picture.state(x));
            check.due("repaired in truth", 1, () -> repairs(x, 3));
        }
    }

    @Sentence(of = "Promise 35", text = "Throws `NoSuchElementException` if there is no such block in the tree")
    static void repairsOfNone(Check check) {
        Missing.block(check, SnowLedger::repairsNeeded);
    }
}
