import java.util.Arrays;
import java.util.NoSuchElementException;

/** The sentences of 'Blocks', 'Flakes and hashes', 'Tampering', 'Hills' and 'Melting'. */
final class TermSentences {
    private static final String NUMBERS = "Blocks are numbered in the order in which they were added, from 0; "
            + "a number is never used again.";
    private static final String PARTS = "Every other block has a parent in the tree, which does not change, "
            + "0 to 4 flakes, and a writer, which is a hill.";
    private static final String VALID = """
            A block is valid if its stored hash equals the hash that is computed from the stored hash of its parent,
            its present flakes, its writer and its nonce.""";
    private static final String MELTS = """
            When a block melts, the block and all blocks whose branches contain it are removed from the tree, and all
            hills that follow a removed block follow the parent of the melted block instead.""";
    private static final int MIN = Integer.MIN_VALUE;
    private static final int MAX = Integer.MAX_VALUE;

    private TermSentences() {
    }

    // Blocks

    @Sentence(of = "Blocks", text = "At most 16 blocks are in the tree.")
    static void sixteenBlocks(Check check) {
        SnowLedger x = Ledgers.chain(14);
        check.due("the 15th beside the root", 15, () -> x.write(0));
        check.due("16 with the root", 16, () -> x.blockCount());
        Refusals.of(check, () -> Ledgers.chain(15))
                .state("the 17th", ledger -> ledger.write(0))
                .state("the 17th, elsewhere", ledger -> ledger.addHill() + ledger.write(1))
                .state("the 17th by a script", ledger -> Check.run(ledger, "write 0"));
        x.melt(14);
        check.due("room for two", 14, () -> x.blockCount());
        check.due("the first of them", 16, () -> x.write(0));
        check.due("the second of them", 17, () -> x.write(0));
        check.refused("no third", IllegalStateException.class, () -> x.write(0));
        check.due("16 again", 16, () -> x.blockCount());
    }

    @Sentence(of = "Blocks", text = NUMBERS)
    static void numbersAreNeverUsedAgain(Check check) {
        SnowLedger x = Ledgers.withHills(2);
        check.due("the first", 1, () -> x.write(1));
        check.due("the second", 2, () -> x.write(0));
        check.due("the third", 3, () -> x.write(1));
        x.melt(3);
        check.due("not 3 again", 4, () -> x.write(1));
        x.melt(1);
        check.due("neither 1 nor 4 again", 5, () -> x.write(1));
        check.due("1, 3 and 4 are no blocks", false, () -> x.exists(1) || x.exists(3) || x.exists(4));
        check.due("by a script", 1, () -> Check.run(x, "write 0"));
        check.due("6 by the script", 6, () -> x.followed(0));
        x.melt(6);
        x.melt(2);
        x.melt(5);
        check.due("all melted", 7, () -> x.write(0));
    }

    @Sentence(of = "Blocks", text = NUMBERS)
    static void numbersGoBeyondTheTreesSize(Check check) {
        SnowLedger x = Ledgers.withHills(1);
        for (int i = 1; i <= 120; i++) {
            int number = i;
            check.due("block " + number, number, () -> x.write(0));
            check.due("melts", 1, () -> x.melt(number));
        }
        check.due("121", 121, () -> Ledgers.write(x, 0, 5));
        check.due("found", 121, () -> x.blockWith(5));
        check.due("rendered", "121-0", () -> Check.output(x, x.renderBranch(121)));
        check.due("old ones", false, () -> x.exists(120) || x.exists(105) || x.exists(1));
    }

    @Sentence(of = "Blocks", text = "Block 0 is the root.")
    static void blockZeroIsTheRoot(Check check) {
        SnowLedger x = Ledgers.twoBranches();
        check.due("height", 0, () -> x.heightOf(0));
        check.due("all branches end there", "2-1-0", () -> Check.output(x, x.renderBranch(2)));
        check.due("its branch", "0", () -> Check.output(x, x.renderBranch(0)));
    }

    @Sentence(of = "Blocks", text = "It is always in the tree, has no parent and no flakes, "
            + "and is written by no hill.")
    static void theRootStays(Check check) {
        rootOf(check, "new", new SnowLedger(), 0);
        rootOf(check, "full", Ledgers.chain(15), 15);
        SnowLedger melted = Ledgers.chain(15);
        melted.melt(1);
        rootOf(check, "all melted", melted, 0);
        SnowLedger undone = Ledgers.withBlock(3);
        undone.undo();
        rootOf(check, "undone", undone, 0);
        SnowLedger restored = new SnowLedger();
        restored.save();
        Check.run(restored, "hill;write 0,1");
        restored.restore();
        rootOf(check, "restored", restored, 0);
    }

    private static void rootOf(Check check, String when, SnowLedger x, int written) {
        check.refused(when + ", melted", IllegalArgumentException.class, () -> x.melt(0));
        check.due(when + ", exists", true, () -> x.exists(0));
        check.refused(when + ", parent", NoSuchElementException.class, () -> x.parentOf(0));
        check.due(when + ", flakes", 0, () -> x.flakeCount(0));
        check.refused(when + ", flake 0", IndexOutOfBoundsException.class, () -> x.flakeAt(0, 0));
        check.refused(when + ", writer", NoSuchElementException.class, () -> x.writerOf(0));
        int hills = x.hillCount();
        int all = 0;
        for (int hill = 0; hill < hills; hill++) {
            all += x.blocksBy(hill);
        }
        int sum = all;
        check.due(when + ", written by no hill", written, () -> sum);
    }

    @Sentence(of = "Blocks", text = PARTS)
    static void parentsStay(Check check) {
        SnowLedger x = Ledgers.twoBranches();
        x.follow(0, 4);
        x.follow(1, 0);
        x.replaceFlake(1, 0, 99);
        x.repair(1);
        x.repair(2);
        x.melt(4);
        x.write(0);
        check.due("2 on 1", 1, () -> x.parentOf(2));
        check.due("1 on 0", 0, () -> x.parentOf(1));
        check.due("3 on 0", 0, () -> x.parentOf(3));
        check.due("5 on 3, where the melted one was", 3, () -> x.parentOf(5));
        check.due("writer of 2", 0, () -> x.writerOf(2));
        check.due("writer of 3", 1, () -> x.writerOf(3));
        check.due("writer of 5, in the room of the melted one", 0, () -> x.writerOf(5));
    }

    @Sentence(of = "Blocks", text = PARTS)
    static void noneToFourFlakes(Check check) {
        int[][] lists = {{}, {9}, {9, 8}, {9, 8, 7}, {9, 8, 7, 6}};
        SnowLedger x = Ledgers.withHills(4);
        for (int size = 0; size < lists.length; size++) {
            int number = Ledgers.write(x, 3, lists[size]);
            int due = size;
            check.due("flakes", due, () -> x.flakeCount(number));
            check.due("the last hill wrote it", 3, () -> x.writerOf(number));
        }
        for (int flake : lists[4]) {
            x.collect(0, flake);
        }
        check.refused("no fifth", IllegalStateException.class, () -> x.collect(0, 5));
    }

    @Sentence(of = "Blocks", text = "The height of a block is 0 for the root, "
            + "and otherwise the height of its parent plus 1.")
    static void heightsGrowByOne(Check check) {
        SnowLedger x = Ledgers.chain(15);
        check.due("root", 0, () -> x.heightOf(0));
        for (int block = 1; block <= 15; block++) {
            int number = block;
            check.due("height of " + number, x.heightOf(x.parentOf(number)) + 1, () -> x.heightOf(number));
            check.due("searched", number, () -> x.heightFromRoot(number));
        }
        x.melt(3);
        x.follow(0, 1);
        check.due("in the room of a higher one", 2, () -> x.heightOf(x.write(0)));
    }

    @Sentence(of = "Blocks", text = "A tip is a block without children.")
    static void tipsHaveNoChildren(Check check) {
        SnowLedger x = Ledgers.withHills(1);
        check.due("the root alone", 0, () -> x.tipAtRank(0));
        x.write(0);
        check.due("the root has a child", 1, () -> x.tipCount());
        check.due("the child", 1, () -> x.tipAtRank(0));
        x.write(0);
        x.melt(2);
        check.due("without its child again", 1, () -> x.tipAtRank(0));
        x.melt(1);
        check.due("the root again", 0, () -> x.tipAtRank(0));
    }

    @Sentence(of = "Blocks", text = "The branch of a block consists of the block, its parent, "
            + "the parent of its parent, and so on up to the root.")
    static void branchesEndAtTheRoot(Check check) {
        SnowLedger x = Ledgers.twoBranches();
        boolean[][] due = {{true, false, false, false, false}, {true, true, false, false, false},
            {true, true, true, false, false}, {true, false, false, true, false}, {true, false, false, true, true}};
        for (int block = 0; block < 5; block++) {
            for (int other = 0; other < 5; other++) {
                int low = other;
                int high = block;
                check.due(low + " in the branch of " + high, due[high][low], () -> x.isInBranch(low, high));
            }
        }
        SnowLedger y = Ledgers.chain(15);
        check.due("16 blocks", true, () -> y.isInBranch(0, 15) && y.isInBranch(15, 15) && y.isInBranch(1, 15));
    }

    // Flakes and hashes

    @Sentence(of = "Flakes and hashes", text = "A flake is a number from 0 to 99.")
    static void flakesFromZeroToNinetyNine(Check check) {
        SnowLedger x = Ledgers.withHills(1);
        check.due("0 is collected", 1, () -> x.collect(0, 0));
        check.due("99 is collected", 2, () -> x.collect(0, 99));
        x.write(0);
        check.due("99 for 0", 0, () -> x.replaceFlake(1, 0, 99));
        check.due("0 for 99", 99, () -> x.replaceFlake(1, 1, 0));
        check.due("0 is found", 1, () -> x.blockWith(0));
        check.due("99 is found", 1, () -> x.blockWith(99));
        check.due("both are different", 2, () -> x.differentFlakes(1));
        for (int flake : new int[] {-1, 100, MIN, MAX}) {
            Refusals.of(check, () -> Ledgers.withBlock(0, 99))
                    .argument(flake + " collected", ledger -> ledger.collect(0, flake))
                    .argument(flake + " put", ledger -> ledger.replaceFlake(1, 0, flake))
                    .argument(flake + " sought", ledger -> ledger.blockWith(flake))
                    .leaveAllAsItWas();
        }
    }

    @Sentence(of = "Flakes and hashes", text = """
            The root of flakes of a block is computed from the list of its flakes as follows: if the list is
            empty, it is 0; as long as the list has more than one element, it is replaced by the list in which the
            elements at the positions 0 and 1, 2 and 3, and so on are combined, where an odd last element is combined
            with itself; the element that is left is the root of flakes.""")
    static void rootsOfLists(Check check) {
        rootOfFlakes(check, 0);
        rootOfFlakes(check, 66, 66);
        rootOfFlakes(check, 818, 1, 2, 3);
        rootOfFlakes(check, 110, 1, 2, 3, 4);
        rootOfFlakes(check, 85, 99, 0);
        rootOfFlakes(check, 693, 0, 99);
        int[] ends = {0, 1, 98, 99};
        for (int a : ends) {
            for (int b : ends) {
                for (int c : ends) {
                    rootOfFlakes(check, Due.root(a, b, c), a, b, c);
                    rootOfFlakes(check, Due.root(a, b, c, 50), a, b, c, 50);
                    rootOfFlakes(check, Due.root(50, a, b, c), 50, a, b, c);
                }
            }
        }
    }

    private static void rootOfFlakes(Check check, int due, int... flakes) {
        SnowLedger x = Ledgers.withBlock(flakes);
        String what = "of " + Arrays.toString(flakes);
        check.due(what, due, () -> x.rootOfFlakes(1));
        check.due(what + " by halves", due, () -> x.rootOfFlakesByHalves(1));
        check.due(what + " in the hash", Due.hash(1, due, 0), () -> x.hashOf(1));
    }

    @Sentence(of = "Flakes and hashes", text = "A list with one flake needs no combination.")
    static void oneFlakeIsItsRoot(Check check) {
        SnowLedger x = Ledgers.withBlock(0);
        for (int flake = 0; flake < 100; flake++) {
            int due = flake;
            x.replaceFlake(1, 0, flake);
            check.due("root of " + flake, due, () -> x.rootOfFlakes(1));
            check.due("root of " + flake + " by halves", due, () -> x.rootOfFlakesByHalves(1));
        }
    }

    @Sentence(of = "Flakes and hashes", text = "Combining a and b gives (31 * a + 17 * b + 7) modulo 997.")
    static void everyPairCombined(Check check) {
        for (int a = 0; a < 100; a++) {
            SnowLedger x = Ledgers.withBlock(a, 0);
            for (int b = 0; b < 100; b++) {
                String what = a + " and " + b;
                int due = Due.combined(a, b);
                x.replaceFlake(1, 1, b);
                check.due(what, due, () -> x.rootOfFlakes(1));
                check.due(what + " by halves", due, () -> x.rootOfFlakesByHalves(1));
            }
        }
        SnowLedger y = Ledgers.withBlock(10, 40);
        check.due("997 is 0", 0, () -> y.rootOfFlakes(1));
        SnowLedger z = Ledgers.withBlock(16, 29);
        check.due("996 stays", 996, () -> z.rootOfFlakes(1));
    }

    @Sentence(of = "Flakes and hashes", text = "The hash of block 0 is 1.")
    static void hashOfTheRoot(Check check) {
        check.due("new", 1, () -> new SnowLedger().hashOf(0));
        check.due("full", 1, () -> Ledgers.chain(15).hashOf(0));
        check.due("rendered", "0#1", () -> {
            SnowLedger x = Ledgers.meltedBranch();
            return Check.output(x, x.renderBlock(0));
        });
        check.due("of the first block's parent", Due.hash(1, 0, 0), () -> Ledgers.withBlock().hashOf(1));
    }

    @Sentence(of = "Flakes and hashes", text = """
            The hash of any other block is (61 * p + 29 * f + 13 * w + n) modulo 9973, where p is the stored hash of
            its parent, f is the root of flakes, w is the index of its writer, and n is the nonce of the block.""")
    static void hashesOfBlocks(Check check) {
        SnowLedger x = Ledgers.withHills(4);
        for (int block = 1; block <= 15; block++) {
            int hill = block % 4;
            int[] flakes = new int[block % 5];
            for (int position = 0; position < flakes.length; position++) {
                flakes[position] = (17 * block + 40 * position) % 100;
            }
            int parent = block * 5 % block;
            x.follow(hill, parent);
            int number = Ledgers.write(x, hill, flakes);
            int nonce = x.nonceOf(number);
            check.due("hash of " + number, Due.hash(x.hashOf(parent), Due.root(flakes), hill, nonce),
                    () -> x.hashOf(number));
        }
        for (int hill = 0; hill < 4; hill++) {
            int writer = hill;
            SnowLedger y = Ledgers.withHills(4);
            check.due("by hill " + hill, Due.hash(1, 0, writer), () -> y.hashOf(y.write(writer)));
        }
    }

    @Sentence(of = "Flakes and hashes", text = "The nonce is the smallest number from 0 on "
            + "for which the hash modulo 4 is 0.")
    static void noncesAreTheSmallest(Check check) {
        nonceOf(check, "0 stays 0", 0, 0, 36, 1, 14, 19);
        nonceOf(check, "1 goes to 4", 3, 4, 8, 0, 12, 22);
        nonceOf(check, "2 goes to 4", 2, 4, 64, 0, 10, 27);
        nonceOf(check, "3 goes to 4", 1, 4, 40, 1, 9, 34);
        nonceOf(check, "4 stays 4", 0, 4, 12, 0, 7, 37);
        nonceOf(check, "9969 goes to 9972", 3, 9972, 64, 0, 88);
        nonceOf(check, "9970 goes to 9972", 2, 9972, 28, 1, 0, 53);
        nonceOf(check, "9971 goes to 9972", 1, 9972, 26, 0, 3);
        nonceOf(check, "9972 is the greatest", 0, 9972, 82, 0, 26);
    }

    /** Hill 0 writes a block with one flake, and the hill writes one with the flakes on it. */
    private static void nonceOf(Check check, String what, int nonce, int hash, int below, int hill, int... flakes) {
        SnowLedger x = Ledgers.withHills(2);
        Ledgers.write(x, 0, below);
        x.follow(hill, 1);
        for (int flake : flakes) {
            x.collect(hill, flake);
        }
        check.due(what + ", foretold", hash, () -> x.nextHash(hill));
        x.write(hill);
        check.due(what + ", nonce", nonce, () -> x.nonceOf(2));
        check.due(what + ", hash", hash, () -> x.hashOf(2));
        check.due(what + ", valid", true, () -> x.isValid(2));
        check.due(what + ", below another", Due.hash(hash, 0, hill), () -> x.hashOf(x.write(hill)));
    }

    @Sentence(of = "Flakes and hashes", text = "The nonce and the hash are computed and stored "
            + "when the block is added.")
    static void hashesAreStored(Check check) {
        SnowLedger x = Ledgers.twoBranches();
        int hash = x.hashOf(2);
        int nonce = x.nonceOf(2);
        x.replaceFlake(1, 0, 11);
        x.repair(1);
        x.replaceFlake(2, 0, 41);
        x.melt(3);
        check.due("the parent's hash has changed", false, () -> x.hashOf(1) == 3196);
        check.due("hash of 2", hash, () -> x.hashOf(2));
        check.due("nonce of 2", nonce, () -> x.nonceOf(2));
    }

    // Tampering

    @Sentence(of = "Tampering", text = "Flakes of a block can be replaced, "
            + "which changes neither its nonce nor its stored hash.")
    static void tamperingLeavesTheHash(Check check) {
        SnowLedger x = Ledgers.withBlock(1, 2, 3, 4);
        int hash = x.hashOf(1);
        int nonce = x.nonceOf(1);
        for (int position = 0; position < 4; position++) {
            for (int flake : new int[] {0, 99, 50}) {
                x.replaceFlake(1, position, flake);
                check.due("hash", hash, () -> x.hashOf(1));
                check.due("nonce", nonce, () -> x.nonceOf(1));
            }
        }
        check.due("all replaced", 50 * 4, () -> x.flakeAt(1, 0) + x.flakeAt(1, 1) + x.flakeAt(1, 2) + x.flakeAt(1, 3));
    }

    @Sentence(of = "Tampering", text = VALID)
    static void validByPresentFlakes(Check check) {
        SnowLedger x = Ledgers.withBlock(0, 0);
        check.due("as written", true, () -> x.isValid(1));
        x.replaceFlake(1, 0, 2);
        check.due("another root", false, () -> x.isValid(1));
        x.replaceFlake(1, 1, 55);
        check.due("the old root by other flakes", true, () -> x.isValid(1));
        x.replaceFlake(1, 1, 54);
        check.due("another root again", false, () -> x.isValid(1));
        x.replaceFlake(1, 0, 0);
        x.replaceFlake(1, 1, 0);
        check.due("the old flakes", true, () -> x.isValid(1));
    }

    /** With 10 and 40 the hash is 61 + 3, with 1 and 18 it is 61 + 29 * 344 + 0: the same, but for the nonce. */
    @Sentence(of = "Tampering", text = VALID)
    static void validByStoredNonce(Check check) {
        SnowLedger x = Ledgers.withBlock(10, 40);
        check.due("hash", 64, () -> x.hashOf(1));
        x.replaceFlake(1, 0, 1);
        x.replaceFlake(1, 1, 18);
        check.due("the nonce is not sought anew", false, () -> x.isValid(1));
    }

    @Sentence(of = "Tampering", text = VALID)
    static void validByTheParentsStoredHash(Check check) {
        SnowLedger x = Ledgers.withBlock(0);
        Ledgers.write(x, 0, 0);
        Ledgers.write(x, 0, 0);
        x.replaceFlake(1, 0, 5);
        check.due("the parent's hash is stored as it was", true, () -> x.isValid(2));
        x.repair(1);
        check.due("the parent's hash is another", false, () -> x.isValid(2));
        check.due("the hash of 2 is as it was", true, () -> x.isValid(3));
        x.replaceFlake(2, 0, 41);
        check.due("another parent's hash and other flakes give the stored hash", true, () -> x.isValid(2));
        x.undo();
        x.undo();
        check.due("the parent's hash is back", true, () -> x.isValid(2));
    }

    @Sentence(of = "Tampering", text = "The root is always valid.")
    static void theRootIsValid(Check check) {
        check.due("new", true, () -> new SnowLedger().isValid(0));
        check.due("its branch", true, () -> new SnowLedger().isBranchValid(0));
        SnowLedger x = Ledgers.star(15);
        for (int block = 1; block <= 15; block++) {
            x.replaceFlake(block, 0, 8);
        }
        check.due("all others invalid", 1.0f / 16.0f, () -> x.validShare());
        check.due("the root", true, () -> x.isValid(0) && x.isBranchValid(0));
        check.due("the root is best", 0, () -> x.bestValidBlock());
    }

    @Sentence(of = "Tampering", text = "A branch is valid if all of its blocks are valid.")
    static void branchesAreValidWhole(Check check) {
        for (int tampered = 1; tampered <= 15; tampered++) {
            int broken = tampered;
            SnowLedger x = Ledgers.chain(15);
            x.replaceFlake(broken, 0, 8);
            for (int block = 0; block <= 15; block++) {
                int number = block;
                check.due(number + " with invalid " + broken, number < broken, () -> x.isBranchValid(number));
                check.due(number + " alone", number != broken, () -> x.isValid(number));
            }
        }
    }

    // Hills

    @Sentence(of = "Hills", text = "At most 4 hills have the indices 0 to n - 1 in the order in which they were added.")
    static void fourHills(Check check) {
        for (int hills = 0; hills <= 4; hills++) {
            int count = hills;
            SnowLedger x = Ledgers.withHills(hills);
            check.due("hillCount", count, () -> x.hillCount());
            for (int hill = 0; hill < hills; hill++) {
                int index = hill;
                check.due("hill " + hill + " of " + count, 0, () -> x.followed(index));
            }
            check.refused("hill n of " + count, IndexOutOfBoundsException.class, () -> x.followed(count));
            check.refused("hill -1 of " + count, IndexOutOfBoundsException.class, () -> x.followed(-1));
            if (count < 4) {
                check.due("the next", count, () -> x.addHill());
            } else {
                check.refused("no fifth", IllegalStateException.class, () -> x.addHill());
            }
        }
    }

    @Sentence(of = "Hills", text = "A hill follows a block, which is the root initially.")
    static void hillsStartAtTheRoot(Check check) {
        SnowLedger x = Ledgers.withBlock(1);
        check.due("a block is there already", 0, () -> x.followed(x.addHill()));
        check.due("by a script", 1, () -> Check.run(x, "hill"));
        check.due("the hill of the script", 0, () -> x.followed(2));
        x.follow(2, 1);
        x.undo();
        x.undo();
        check.due("added again", 0, () -> x.followed(x.addHill()));
    }

    @Sentence(of = "Hills", text = """
            When a hill writes a block, the parent of the new block is the block that the hill follows, and the hill
            follows the new block afterwards.""")
    static void hillsFollowWhatTheyWrite(Check check) {
        SnowLedger x = Ledgers.twoBranches();
        x.follow(2, 1);
        x.follow(1, 1);
        check.due("written", 5, () -> x.write(2));
        check.due("on the followed one", 1, () -> x.parentOf(5));
        check.due("followed", 5, () -> x.followed(2));
        check.due("others stay", 2 + 1, () -> x.followed(0) + x.followed(1));
        check.due("the next on it", 5, () -> x.parentOf(x.write(2)));
        check.due("the next is followed", 6, () -> x.followed(2));
        check.due("beside it", 1, () -> x.parentOf(x.write(1)));
    }

    @Sentence(of = "Hills", text = "Collected flakes stay until the hill writes a block.")
    static void collectedFlakesStay(Check check) {
        SnowLedger x = Ledgers.withHills(2);
        Ledgers.write(x, 0, 7);
        x.collect(1, 3);
        x.collect(1, 4);
        x.follow(1, 1);
        x.write(0);
        x.replaceFlake(1, 0, 8);
        check.refused("refused", UnsupportedOperationException.class, () -> x.write(1));
        x.repair(1);
        x.melt(1);
        x.addHill();
        check.due("still two", 2, () -> x.collected(1));
        check.due("the others have none", 0, () -> x.collected(0) + x.collected(2));
        check.due("written", "3#" + x.nextHash(1) + "<0h1,3,4", () -> Check.output(x, x.renderBlock(x.write(1))));
        check.due("none", 0, () -> x.collected(1));
    }

    // Melting

    @Sentence(of = "Melting", text = MELTS)
    static void branchesMelt(Check check) {
        SnowLedger x = Ledgers.withHills(4);
        x.write(0);
        x.write(0);
        x.write(0);
        x.write(0);
        x.follow(1, 2);
        x.write(1);
        x.write(1);
        x.follow(2, 1);
        x.write(2);
        x.follow(2, 2);
        x.follow(3, 7);
        check.due("2, 3, 4, 5 and 6", 5, () -> x.melt(2));
        for (int block = 0; block <= 8; block++) {
            int number = block;
            check.due("block " + number, number < 2 || number == 7, () -> x.exists(number));
        }
        check.due("a follower of 4", 1, () -> x.followed(0));
        check.due("a follower of 6", 1, () -> x.followed(1));
        check.due("a follower of 2", 1, () -> x.followed(2));
        check.due("a follower of 7", 7, () -> x.followed(3));
        check.due("1 and 7", 2, () -> x.melt(1));
        check.due("all on the root", 0, () -> x.followed(0) + x.followed(1) + x.followed(2) + x.followed(3));
        check.due("the root alone", 1, () -> x.blockCount());
    }

    @Sentence(of = "Melting", text = MELTS)
    static void tipsAndWholeChainsMelt(Check check) {
        SnowLedger x = Ledgers.chain(15);
        check.due("the tip", 1, () -> x.melt(15));
        check.due("followed below the tip", 14, () -> x.followed(0));
        check.due("all above the first", 13, () -> x.melt(2));
        check.due("followed below", 1, () -> x.followed(0));
        check.due("the first is a tip", 1, () -> x.tipAtRank(0));
        SnowLedger y = Ledgers.star(15);
        check.due("one of the star", 1, () -> y.melt(8));
        check.due("the others stay", 15, () -> y.blockCount());
        check.due("followed elsewhere", 15, () -> y.followed(0));
        y.melt(15);
        check.due("followed at the root", 0, () -> y.followed(0));
    }
}
