/** The sentences of promises 9 to 24: what is told of one block, and whether it is valid. */
final class BlockSentences {
    private static final int MIN = Integer.MIN_VALUE;
    private static final int MAX = Integer.MAX_VALUE;

    private BlockSentences() {
    }

    // Promise 9

    @Sentence(of = "Promise 9", text = {"Returns the number of blocks in the tree, including the root.",
        "Returns the number of blocks."})
    static void countOfBlocks(Check check) {
        for (int blocks = 0; blocks <= 15; blocks++) {
            int count = blocks;
            check.due(count + " and the root", count + 1, () -> Ledgers.chain(count).blockCount());
        }
        SnowLedger x = Ledgers.chain(15);
        check.refused("full", IllegalStateException.class, () -> x.write(0));
        check.due("full", 16, () -> x.blockCount());
        x.melt(9);
        check.due("seven melted", 9, () -> x.blockCount());
        x.undo();
        check.due("undone", 16, () -> x.blockCount());
        x.melt(1);
        check.due("the root alone", 1, () -> x.blockCount());
    }

    // Promise 10

    @Sentence(of = "Promise 10", text = {"Returns whether a block is in the tree.",
        "Returns true if there is such a block."})
    static void blocksInTheTree(Check check) {
        SnowLedger x = Ledgers.chain(3);
        exist(check, "written", x, true, 0, 1, 2, 3);
        exist(check, "not yet written", x, false, 4, 5);
        x.melt(2);
        exist(check, "left", x, true, 0, 1);
        exist(check, "melted", x, false, 2, 3, 4);
        x.write(0);
        exist(check, "in a melted one's room", x, true, 4);
        exist(check, "melted before", x, false, 2, 3, 5);
        x.undo();
        exist(check, "undone", x, false, 2, 3, 4);
        x.undo();
        exist(check, "the melting undone", x, true, 0, 1, 2, 3);
    }

    @Sentence(of = "Promise 10", text = "`block`: any number")
    static void anyNumberMayBeAsked(Check check) {
        int[] numbers = {-1, -2, 1, 15, 16, 17, 255, 256, 65536, MIN, MIN + 1, MAX, MAX - 1};
        exist(check, "beside the root alone", new SnowLedger(), false, numbers);
        exist(check, "beside a full tree", Ledgers.chain(15), false, -1, -2, 16, 17, 255, 256, 65536, MIN, MAX);
        SnowLedger x = Ledgers.meltedBranch();
        exist(check, "beside melted ones", x, false, -1, -2, 1, 2, 5, MIN, MAX);
        check.due("asking changes nothing", Picture.state(Ledgers.meltedBranch()), () -> Picture.state(x));
    }

    private static void exist(Check check, String what, SnowLedger x, boolean due, int... blocks) {
        for (int block : blocks) {
            check.due(block + " " + what, due, () -> x.exists(block));
        }
    }

    // Promise 11

    @Sentence(of = "Promise 11", text = {"Returns the parent of a block.", "Returns the number of the parent."})
    static void parents(Check check) {
        SnowLedger x = Ledgers.twoBranches();
        check.due("1", 0, () -> x.parentOf(1));
        check.due("2", 1, () -> x.parentOf(2));
        check.due("3", 0, () -> x.parentOf(3));
        check.due("4", 3, () -> x.parentOf(4));
        x.melt(1);
        x.follow(0, 3);
        check.due("5 in a melted one's room", 3, () -> x.parentOf(x.write(0)));
        check.due("6 on it", 5, () -> x.parentOf(x.write(0)));
        check.due("4 as before", 3, () -> x.parentOf(4));
    }

    @Sentence(of = "Promise 11", text = "Throws `NoSuchElementException` if there is no such block in the tree, "
            + "or it is the root")
    static void parentOfNone(Check check) {
        Missing.writtenBlock(check, SnowLedger::parentOf);
        notOfTheRoot(check, SnowLedger::parentOf);
    }

    private static void notOfTheRoot(Check check, Missing.Query query) {
        Refusals.of(check, SnowLedger::new).element("the root alone", x -> query.of(x, 0)).leaveAllAsItWas();
        Refusals.of(check, Ledgers::wellUsed).element("the root", x -> query.of(x, 0)).leaveAllAsItWas();
        Refusals.of(check, () -> Ledgers.chain(15)).element("the root of 16", x -> query.of(x, 0)).leaveAllAsItWas();
    }

    // Promise 12

    @Sentence(of = "Promise 12", text = {"Returns the number of children of a block.",
        "Returns the number of children."})
    static void children(Check check) {
        check.due("the root alone", 0, () -> new SnowLedger().childCount(0));
        for (int blocks = 1; blocks <= 15; blocks++) {
            int count = blocks;
            check.due("a star of " + count, count, () -> Ledgers.star(count).childCount(0));
            check.due("one of it", 0, () -> Ledgers.star(count).childCount(count));
            check.due("the root of a chain of " + count, 1, () -> Ledgers.chain(count).childCount(0));
        }
        SnowLedger x = Ledgers.star(15);
        x.melt(3);
        check.due("one melted", 14, () -> x.childCount(0));
        x.follow(0, 1);
        x.write(0);
        check.due("a grandchild is no child", 14, () -> x.childCount(0));
        check.due("a child in a melted one's room", 1, () -> x.childCount(1));
    }

    @Sentence(of = "Promise 12", text = "Throws `NoSuchElementException` if there is no such block in the tree")
    static void childrenOfNone(Check check) {
        Missing.block(check, SnowLedger::childCount);
    }

    // Promise 13

    @Sentence(of = "Promise 13", text = {"Returns the writer of a block.", "Returns the index of the hill."})
    static void writers(Check check) {
        SnowLedger x = Ledgers.withHills(4);
        for (int block = 1; block <= 15; block++) {
            int hill = block * 3 % 4;
            check.due("block " + block, hill, () -> x.writerOf(x.write(hill)));
        }
        x.melt(15);
        x.follow(2, 14);
        check.due("in a melted one's room", 2, () -> x.writerOf(x.write(2)));
        x.follow(2, 0);
        check.due("its writer has left it", 2, () -> x.writerOf(16));
    }

    @Sentence(of = "Promise 13", text = "Throws `NoSuchElementException` if there is no such block in the tree, "
            + "or it is the root")
    static void writerOfNone(Check check) {
        Missing.writtenBlock(check, SnowLedger::writerOf);
        notOfTheRoot(check, SnowLedger::writerOf);
    }

    // Promise 14

    @Sentence(of = "Promise 14", text = {"Returns the number of flakes of a block.", "Returns the number of flakes."})
    static void flakesOfBlocks(Check check) {
        int[][] lists = {{}, {0}, {0, 0}, {0, 0, 0}, {0, 0, 0, 0}};
        for (int[] flakes : lists) {
            check.due("flakes", flakes.length, () -> Ledgers.withBlock(flakes).flakeCount(1));
        }
        check.due("the root", 0, () -> Ledgers.withBlock(1, 2).flakeCount(0));
        SnowLedger x = Ledgers.withBlock(1, 2, 3, 4);
        x.replaceFlake(1, 0, 9);
        x.repair(1);
        check.due("replaced", 4, () -> x.flakeCount(1));
        x.melt(1);
        x.write(0);
        check.due("none in a melted one's room", 0, () -> x.flakeCount(2));
        x.collect(0, 5);
        check.due("those for the next block do not count", 0, () -> x.flakeCount(2));
    }

    @Sentence(of = "Promise 14", text = "Throws `NoSuchElementException` if there is no such block in the tree")
    static void flakesOfNone(Check check) {
        Missing.block(check, SnowLedger::flakeCount);
    }

    // Promise 15

    @Sentence(of = "Promise 15", text = {"Returns a flake of a block.", "Returns the flake."})
    static void flakes(Check check) {
        SnowLedger x = Ledgers.withBlock(0, 99, 5, 5);
        Ledgers.write(x, 0, 6);
        check.due("first", 0, () -> x.flakeAt(1, 0));
        check.due("second", 99, () -> x.flakeAt(1, 1));
        check.due("third", 5, () -> x.flakeAt(1, 2));
        check.due("fourth", 5, () -> x.flakeAt(1, 3));
        check.due("of the next block", 6, () -> x.flakeAt(2, 0));
        x.replaceFlake(1, 3, 8);
        check.due("replaced", 8, () -> x.flakeAt(1, 3));
        check.due("beside the replaced", 5, () -> x.flakeAt(1, 2));
        x.undo();
        check.due("undone", 5, () -> x.flakeAt(1, 3));
    }

    @Sentence(of = "Promise 15", text = "Throws `NoSuchElementException` if there is no such block in the tree")
    static void flakeOfNone(Check check) {
        Missing.blockWithFlake(check, (x, block) -> x.flakeAt(block, 0));
    }

    @Sentence(of = "Promise 15", text = {"Throws `IndexOutOfBoundsException` if the block has no such position",
        "`position`: the position, from 0"})
    static void flakeAtNoPosition(Check check) {
        int[][] lists = {{}, {40}, {40, 41}, {40, 41, 42}, {40, 41, 42, 43}};
        for (int[] flakes : lists) {
            int count = flakes.length;
            if (count > 0) {
                check.due("the first of " + count, 40, () -> Ledgers.between(flakes).flakeAt(2, 0));
                check.due("the last of " + count, 40 + count - 1, () -> Ledgers.between(flakes).flakeAt(2, count - 1));
            }
            Refusals refusals = Refusals.of(check, () -> Ledgers.between(flakes));
            for (int position : new int[] {-1, -4, count, 4, 5, MIN, MAX, MAX / 4 + 1, MIN / 4}) {
                refusals.index(position + " of " + count, x -> x.flakeAt(2, position));
            }
            refusals.leaveAllAsItWas();
        }
        Refusals.of(check, Ledgers::twoBranches).index("the root", x -> x.flakeAt(0, 0)).leaveAllAsItWas();
    }

    // Promise 16

    @Sentence(of = "Promise 16", text = {"Returns the stored hash of a block.", "Returns the hash."})
    static void hashes(Check check) {
        SnowLedger x = Ledgers.twoBranches();
        int[] due = {1, 3196, 6632, 76, 4652};
        for (int block = 0; block < due.length; block++) {
            int number = block;
            check.due("hash of " + number, due[number], () -> x.hashOf(number));
        }
        x.replaceFlake(1, 1, 99);
        check.due("stored, though tampered", 3196, () -> x.hashOf(1));
        x.repair(1);
        check.due("repaired", 5172, () -> x.hashOf(1));
        check.due("stored, though its parent is repaired", 6632, () -> x.hashOf(2));
        x.undo();
        check.due("undone", 3196, () -> x.hashOf(1));
    }

    @Sentence(of = "Promise 16", text = "Throws `NoSuchElementException` if there is no such block in the tree")
    static void hashOfNone(Check check) {
        Missing.block(check, SnowLedger::hashOf);
    }

    // Promise 17

    @Sentence(of = "Promise 17", text = {"Returns the nonce of a block.", "Returns the nonce."})
    static void nonces(Check check) {
        int[] due = {3, 2, 1, 0};
        for (int flake = 0; flake < 100; flake++) {
            int nonce = (4 - (61 + 29 * flake) % 9973 % 4) % 4;
            SnowLedger x = Ledgers.withBlock(flake);
            check.due("with flake " + flake, nonce, () -> x.nonceOf(1));
        }
        for (int i = 0; i < 4; i++) {
            int nonce = due[i];
            int flake = i;
            check.due("nonce " + nonce, nonce, () -> Ledgers.withBlock(flake).nonceOf(1));
        }
        SnowLedger x = Ledgers.twoBranches();
        x.replaceFlake(1, 1, 99);
        check.due("stored, though tampered", 3, () -> x.nonceOf(1));
        x.repair(1);
        check.due("repaired", 1, () -> x.nonceOf(1));
        x.undo();
        check.due("undone", 3, () -> x.nonceOf(1));
    }

    @Sentence(of = "Promise 17", text = "Throws `NoSuchElementException` if there is no such block in the tree, "
            + "or it is the root")
    static void nonceOfNone(Check check) {
        Missing.writtenBlock(check, SnowLedger::nonceOf);
        notOfTheRoot(check, SnowLedger::nonceOf);
    }

    // Promises 18 and 19

    @Sentence(of = "Promise 18", text = {"Returns the root of flakes of the present flakes of a block, "
            + "computed list by list.", "Returns the root of flakes."})
    static void rootsByLists(Check check) {
        roots(check, SnowLedger::rootOfFlakes);
    }

    @Sentence(of = "Promise 18", text = "Throws `NoSuchElementException` if there is no such block in the tree")
    static void rootByListsOfNone(Check check) {
        Missing.block(check, SnowLedger::rootOfFlakes);
    }

    @Sentence(of = "Promise 19", text = {"Returns the same number as rootOfFlakes, computed recursively from halves.",
        "Returns the root of flakes."})
    static void rootsByHalves(Check check) {
        roots(check, SnowLedger::rootOfFlakesByHalves);
        int[][] lists = {{}, {50}, {50, 60}, {50, 60, 70}, {50, 60, 70, 80}};
        for (int[] flakes : lists) {
            SnowLedger x = Ledgers.withBlock(flakes);
            check.due("the same for " + flakes.length, x.rootOfFlakes(1), () -> x.rootOfFlakesByHalves(1));
        }
    }

    @Sentence(of = "Promise 19", text = "Throws `NoSuchElementException` if there is no such block in the tree")
    static void rootByHalvesOfNone(Check check) {
        Missing.block(check, SnowLedger::rootOfFlakesByHalves);
    }

    private static void roots(Check check, Missing.Query query) {
        check.due("the root has no flakes", 0, () -> query.of(new SnowLedger(), 0));
        check.due("no flakes", 0, () -> query.of(Ledgers.withBlock(), 1));
        check.due("one flake", 5, () -> query.of(Ledgers.withBlock(5), 1));
        check.due("two flakes", 85, () -> query.of(Ledgers.withBlock(99, 0), 1));
        check.due("three flakes", 818, () -> query.of(Ledgers.withBlock(1, 2, 3), 1));
        check.due("four flakes", 110, () -> query.of(Ledgers.withBlock(1, 2, 3, 4), 1));
        SnowLedger x = Ledgers.withBlock(1, 2, 3, 4);
        int[] present = {1, 2, 3, 4};
        for (int position = 3; position >= 0; position--) {
            present[position] = 60 + position;
            x.replaceFlake(1, position, 60 + position);
            check.due("present flakes", Due.root(present), () -> query.of(x, 1));
        }
        x.melt(1);
        x.write(0);
        check.due("none in a melted one's room", 0, () -> query.of(x, 2));
    }

    // Promises 20 and 21

    @Sentence(of = "Promise 20", text = {"Returns the height of a block, found by walking to the root.",
        "Returns the height."})
    static void heightsByWalking(Check check) {
        heights(check, SnowLedger::heightOf);
    }

    @Sentence(of = "Promise 20", text = "Throws `NoSuchElementException` if there is no such block in the tree")
    static void heightOfNone(Check check) {
        Missing.block(check, SnowLedger::heightOf);
    }

    @Sentence(of = "Promise 21", text = {"Returns the same number as heightOf, "
            + "found by searching from the root downwards.", "Returns the height."})
    static void heightsBySearching(Check check) {
        heights(check, SnowLedger::heightFromRoot);
    }

    @Sentence(of = "Promise 21", text = "Throws `NoSuchElementException` if there is no such block in the tree")
    static void searchedHeightOfNone(Check check) {
        Missing.block(check, SnowLedger::heightFromRoot);
    }

    private static void heights(Check check, Missing.Query query) {
        check.due("the root alone", 0, () -> query.of(new SnowLedger(), 0));
        SnowLedger chain = Ledgers.chain(15);
        SnowLedger star = Ledgers.star(15);
        for (int block = 0; block <= 15; block++) {
            int number = block;
            check.due(number + " of a chain", number, () -> query.of(chain, number));
            check.due(number + " of a star", number == 0 ? 0 : 1, () -> query.of(star, number));
        }
        SnowLedger x = Ledgers.twoBranches();
        check.due("2", 2, () -> query.of(x, 2));
        check.due("3", 1, () -> query.of(x, 3));
        check.due("4", 2, () -> query.of(x, 4));
        x.melt(1);
        x.follow(0, 4);
        x.write(0);
        x.write(0);
        check.due("5 in a melted one's room", 3, () -> query.of(x, 5));
        check.due("6 in a melted one's room", 4, () -> query.of(x, 6));
    }

    // Promise 22

    @Sentence(of = "Promise 22", text = {"Returns whether a block is valid.", "Returns true if it is valid."})
    static void validBlocks(Check check) {
        SnowLedger x = Ledgers.chain(15);
        for (int block = 0; block <= 15; block++) {
            int number = block;
            check.due(number + " as written", true, () -> x.isValid(number));
        }
        x.replaceFlake(15, 0, 8);
        check.due("the last, tampered", false, () -> x.isValid(15));
        check.due("the one below", true, () -> x.isValid(14));
        x.replaceFlake(15, 0, 7);
        check.due("the old flake", true, () -> x.isValid(15));
        x.replaceFlake(1, 0, 8);
        check.due("the first, tampered", false, () -> x.isValid(1));
        check.due("the one above it", true, () -> x.isValid(2));
        x.repair(1);
        check.due("repaired", true, () -> x.isValid(1));
        check.due("above the repaired", false, () -> x.isValid(2));
        x.undo();
        check.due("the repair undone", false, () -> x.isValid(1));
        check.due("above it", true, () -> x.isValid(2));
    }

    @Sentence(of = "Promise 22", text = "Throws `NoSuchElementException` if there is no such block in the tree")
    static void validityOfNone(Check check) {
        Missing.block(check, SnowLedger::isValid);
    }

    // Promise 23

    @Sentence(of = "Promise 23", text = {"Returns whether the branch of a block is valid.",
        "Returns true if all blocks of the branch are valid."})
    static void validBranches(Check check) {
        SnowLedger x = Ledgers.twoBranches();
        branches(check, x, true, 0, 1, 2, 3, 4);
        x.replaceFlake(2, 0, 41);
        branches(check, x, false, 2);
        branches(check, x, true, 0, 1, 3, 4);
        x.replaceFlake(1, 0, 11);
        branches(check, x, false, 1, 2);
        x.repair(2);
        branches(check, x, false, 1, 2);
        branches(check, x, true, 0, 3, 4);
        x.repair(1);
        branches(check, x, true, 1);
        branches(check, x, false, 2);
        x.repair(2);
        branches(check, x, true, 0, 1, 2, 3, 4);
    }

    private static void branches(Check check, SnowLedger x, boolean due, int... blocks) {
        for (int block : blocks) {
            check.due("branch of " + block, due, () -> x.isBranchValid(block));
        }
    }

    @Sentence(of = "Promise 23", text = "Throws `NoSuchElementException` if there is no such block in the tree")
    static void branchOfNone(Check check) {
        Missing.block(check, SnowLedger::isBranchValid);
    }

    // Promise 24

    @Sentence(of = "Promise 24", text = {"Returns the lowest block of the branch of a block that is not valid, "
            + "that is, the one with the least height.", "Returns the number of the invalid block."})
    static void lowestInvalid(Check check) {
        SnowLedger x = Ledgers.chain(15);
        x.replaceFlake(15, 0, 8);
        check.due("the last alone", 15, () -> x.firstInvalid(15));
        x.replaceFlake(9, 0, 8);
        check.due("of two", 9, () -> x.firstInvalid(15));
        check.due("itself", 9, () -> x.firstInvalid(9));
        x.replaceFlake(1, 0, 8);
        check.due("of three", 1, () -> x.firstInvalid(15));
        check.due("the first itself", 1, () -> x.firstInvalid(1));
        x.repair(1);
        check.due("above the repaired", 2, () -> x.firstInvalid(15));
        SnowLedger y = Ledgers.star(2);
        y.melt(1);
        Ledgers.write(y, 0, 1);
        y.replaceFlake(3, 0, 5);
        y.replaceFlake(2, 0, 6);
        check.due("the parent of one in a melted one's room", 2, () -> y.firstInvalid(3));
    }

    @Sentence(of = "Promise 24", text = "Throws `NoSuchElementException` if there is no such block in the tree, "
            + "or its branch is valid")
    static void noneInvalid(Check check) {
        Missing.invalidBlock(check, SnowLedger::firstInvalid);
        Refusals.of(check, SnowLedger::new).element("the root alone", x -> x.firstInvalid(0)).leaveAllAsItWas();
        Refusals.of(check, Ledgers::twoBranches)
                .element("the root", x -> x.firstInvalid(0))
                .element("a tip", x -> x.firstInvalid(2))
                .element("a parent", x -> x.firstInvalid(3))
                .leaveAllAsItWas();
        Refusals.of(check, () -> {
            SnowLedger tampered = Ledgers.chain(3);
            tampered.replaceFlake(2, 0, 8);
            return tampered;
        }).element("below the invalid one", x -> x.firstInvalid(1)).leaveAllAsItWas();
    }
}
