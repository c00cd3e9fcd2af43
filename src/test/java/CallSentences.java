import java.util.Arrays;

/** The sentences of promises 1 to 8: a new object, and the changes that are no scripts. */
final class CallSentences {
    private static final String WRITES = "Lets a hill write a block with all flakes that it has collected, "
            + "in the order in which it collected them.";
    private static final String INVALID_BRANCH = "Throws `UnsupportedOperationException` "
            + "if the branch of the block that the hill follows is not valid";
    private static final String REPAIRS = "Repairs a block: its nonce and its stored hash are computed anew, "
            + "as if it was added now.";
    private static final int MIN = Integer.MIN_VALUE;
    private static final int MAX = Integer.MAX_VALUE;

    private CallSentences() {
    }

    // Promise 1

    @Sentence(of = "Promise 1", text = "Creates a ledger with the root and without hills.")
    static void newLedger(Check check) {
        check.due("state", " block 0#1 totals 0 0", () -> Picture.state(new SnowLedger()));
        check.due("blockCount", 1, () -> new SnowLedger().blockCount());
        check.due("hillCount", 0, () -> new SnowLedger().hillCount());
        Refusals.of(check, SnowLedger::new)
                .index("no hill", x -> x.followed(0))
                .element("no block 1", x -> x.hashOf(1))
                .index("no output", x -> x.outputAt(0))
                .element("no error position", x -> x.errorPosition())
                .element("no failed command", x -> x.failedCommand())
                .state("nothing to undo", x -> x.undo())
                .state("no snapshot", x -> x.restore())
                .leaveAllAsItWas();
        check.due("nothing typed", 1, () -> new SnowLedger().type('h'));
        check.due("the first hill", 0, () -> new SnowLedger().addHill());
        check.due("the first block", 1, () -> Ledgers.withHills(1).write(0));
    }

    @Sentence(of = "Promise 1", text = "Creates a ledger with the root and without hills.")
    static void ledgersAreApart(Check check) {
        SnowLedger first = Ledgers.wellUsed();
        String before = Picture.state(first);
        SnowLedger second = new SnowLedger();
        check.due("a new one beside a used one", " block 0#1 totals 0 0", () -> Picture.state(second));
        second.addHill();
        Ledgers.write(second, 0, 77);
        second.save();
        second.melt(1);
        check.due("the used one beside the new one", before, () -> Picture.state(first));
    }

    // Promise 2

    @Sentence(of = "Promise 2", text = "Adds a hill, which follows the root and has collected no flakes.")
    static void addedHill(Check check) {
        SnowLedger x = Ledgers.twoBranches();
        String before = Picture.state(x);
        x.addHill();
        check.due("one more", 4, () -> x.hillCount());
        check.due("on the root", 0, () -> x.followed(3));
        check.due("no flakes", 0, () -> x.collected(3));
        check.due("foretells an empty block", Due.hash(1, 0, 3), () -> x.nextHash(3));
        x.undo();
        check.due("nothing else has changed", before, () -> Picture.state(x));
    }

    @Sentence(of = "Promise 2", text = "Adds a hill, which follows the root and has collected no flakes.")
    static void addedHillAfterAnUndoneOne(Check check) {
        SnowLedger x = Ledgers.withBlock(1);
        x.addHill();
        x.follow(1, 1);
        x.collect(1, 9);
        x.collect(1, 8);
        for (int i = 0; i < 4; i++) {
            x.undo();
        }
        check.due("added anew", 1, () -> x.addHill());
        check.due("on the root", 0, () -> x.followed(1));
        check.due("no flakes", 0, () -> x.collected(1));
        check.due("an empty block", 0, () -> x.flakeCount(x.write(1)));
    }

    @Sentence(of = "Promise 2", text = "Returns the index of the hill.")
    static void addedHillsIndex(Check check) {
        SnowLedger x = new SnowLedger();
        for (int hill = 0; hill < 4; hill++) {
            int due = hill;
            check.due("hill " + hill, due, () -> x.addHill());
        }
        x.undo();
        check.due("the last again", 3, () -> x.addHill());
    }

    @Sentence(of = "Promise 2", text = "Throws `IllegalStateException` if there are 4 hills")
    static void fifthHill(Check check) {
        check.due("the fourth", 3, () -> Ledgers.withHills(3).addHill());
        Refusals.of(check, () -> Ledgers.withHills(4)).state("the fifth", x -> x.addHill()).leaveAllAsItWas();
        SnowLedger x = Ledgers.withHills(4);
        check.refused("the fifth by a script", IllegalStateException.class, () -> Check.run(x, "hill"));
        check.due("four hills", 4, () -> x.hillCount());
        x.undo();
        check.due("room after an undo", 3, () -> x.addHill());
        check.refused("the fifth again", IllegalStateException.class, () -> x.addHill());
    }

    // Promise 3

    @Sentence(of = "Promise 3", text = "Lets a hill collect a flake for the next block that it writes.")
    static void collectedForTheNextBlock(Check check) {
        SnowLedger x = Ledgers.withBlock(1);
        x.addHill();
        x.collect(0, 2);
        x.collect(1, 3);
        check.due("not for the block before", 1, () -> x.flakeCount(1));
        x.write(0);
        check.due("for the next block", "2#" + x.hashOf(2) + "<1h0,2", () -> Check.output(x, x.renderBlock(2)));
        x.write(0);
        check.due("not for the one after it", 0, () -> x.flakeCount(3));
        x.write(1);
        check.due("for the hill's own", 3, () -> x.flakeAt(4, 0));
    }

    @Sentence(of = "Promise 3", text = "Returns the number of flakes that the hill has collected after the call.")
    static void countOfCollectedFlakes(Check check) {
        SnowLedger x = Ledgers.withHills(4);
        for (int count = 1; count <= 4; count++) {
            for (int hill = 0; hill < 4; hill++) {
                int index = hill;
                int due = count;
                check.due("hill " + hill, due, () -> x.collect(index, 50));
            }
        }
        x.write(2);
        check.due("from 1 again", 1, () -> x.collect(2, 50));
        x.undo();
        check.due("undone", 1, () -> x.collect(2, 50));
    }

    @Sentence(of = "Promise 3", text = "Throws `IndexOutOfBoundsException` if there is no such hill")
    static void collectByNoHill(Check check) {
        Missing.hill(check, (x, hill) -> x.collect(hill, 5));
    }

    @Sentence(of = "Promise 3", text = "Throws `IllegalArgumentException` if flake is not between 0 and 99")
    static void collectNoFlake(Check check) {
        check.due("0", 2, () -> Ledgers.twoBranches().collect(2, 0));
        check.due("99", 2, () -> Ledgers.twoBranches().collect(2, 99));
        Refusals.of(check, Ledgers::twoBranches)
                .argument("-1", x -> x.collect(2, -1))
                .argument("100", x -> x.collect(2, 100))
                .argument("the least number", x -> x.collect(2, MIN))
                .argument("the greatest number", x -> x.collect(2, MAX))
                .leaveAllAsItWas();
    }

    @Sentence(of = "Promise 3", text = "Throws `IllegalStateException` if the hill has collected 4 flakes")
    static void collectFifthFlake(Check check) {
        check.due("the fourth", 4, () -> collected(3).collect(1, 50));
        Refusals.of(check, () -> collected(4)).state("the fifth", x -> x.collect(1, 50)).leaveAllAsItWas();
        SnowLedger x = collected(4);
        check.refused("the fifth", IllegalStateException.class, () -> x.collect(1, 50));
        check.due("another hill", 1, () -> x.collect(0, 50));
        check.due("four are written", "1#" + x.nextHash(1) + "<0h1,60,61,62,63",
                () -> Check.output(x, x.renderBlock(x.write(1))));
        check.due("room again", 1, () -> x.collect(1, 50));
    }

    /** Two hills, of which the second has collected so many flakes: 60, 61 and so on. */
    private static SnowLedger collected(int flakes) {
        SnowLedger ledger = Ledgers.withHills(2);
        for (int i = 0; i < flakes; i++) {
            ledger.collect(1, 60 + i);
        }
        return ledger;
    }

    // Promise 4

    @Sentence(of = "Promise 4", text = WRITES)
    static void writtenFlakes(Check check) {
        int[][] lists = {{}, {0}, {99, 0}, {3, 9, 3}, {4, 3, 2, 1}, {5, 5, 5, 5}};
        SnowLedger x = Ledgers.withHills(1);
        for (int[] flakes : lists) {
            int block = Ledgers.write(x, 0, flakes);
            check.due("count", flakes.length, () -> x.flakeCount(block));
            for (int position = 0; position < flakes.length; position++) {
                int at = position;
                check.due("flake " + at + " of " + block, flakes[at], () -> x.flakeAt(block, at));
            }
        }
    }

    @Sentence(of = "Promise 4", text = WRITES)
    static void eachHillsOwnFlakes(Check check) {
        SnowLedger x = Ledgers.withHills(4);
        for (int count = 0; count < 4; count++) {
            for (int hill = 3; hill >= 0; hill--) {
                x.collect(hill, 10 * hill + count);
            }
        }
        for (int hill = 0; hill < 4; hill++) {
            int writer = hill;
            String flakes = "," + 10 * hill + "," + (10 * hill + 1) + "," + (10 * hill + 2) + "," + (10 * hill + 3);
            String due = "#" + x.nextHash(hill) + "<0h" + hill + flakes;
            check.due("by hill " + writer, (writer + 1) + due, () -> Check.output(x, x.renderBlock(x.write(writer))));
        }
    }

    /** The other hill holds flakes too, and there are blocks before and after the room that is taken. */
    @Sentence(of = "Promise 4", text = WRITES)
    static void writtenInAMeltedOnesRoom(Check check) {
        for (int melted = 1; melted <= 3; melted++) {
            int gone = melted;
            SnowLedger x = Ledgers.withHills(2);
            for (int block = 1; block <= 3; block++) {
                x.follow(0, 0);
                Ledgers.write(x, 0, 10 * block, 10 * block + 1, 10 * block + 2, 10 * block + 3);
            }
            x.melt(gone);
            x.collect(1, 97);
            x.follow(0, 0);
            Ledgers.write(x, 0, 91, 92, 93, 94);
            for (int block = 1; block <= 4; block++) {
                int number = block;
                if (number != gone) {
                    int first = number == 4 ? 91 : 10 * number;
                    check.due("first flake of " + number, first, () -> x.flakeAt(number, 0));
                    check.due("last flake of " + number, first + 3, () -> x.flakeAt(number, 3));
                    check.due("valid " + number, true, () -> x.isValid(number));
                }
            }
            check.due("the other hill's flake", Due.hash(1, 97, 1), () -> x.nextHash(1));
        }
    }

    @Sentence(of = "Promise 4", text = "It has collected no flakes afterwards.")
    static void noFlakesAfterWriting(Check check) {
        SnowLedger x = collected(4);
        x.collect(0, 1);
        x.write(1);
        check.due("none", 0, () -> x.collected(1));
        check.due("the other hill keeps its own", 1, () -> x.collected(0));
        check.due("an empty block", 0, () -> x.flakeCount(x.write(1)));
        check.due("foretold without flakes", Due.hash(x.hashOf(2), 0, 1), () -> x.nextHash(1));
    }

    @Sentence(of = "Promise 4", text = "Returns the number of the block.")
    static void writtenNumber(Check check) {
        SnowLedger x = Ledgers.withHills(2);
        for (int block = 1; block <= 15; block++) {
            int due = block;
            check.due("block " + block, due, () -> x.write(due % 2));
            check.due("it is in the tree", true, () -> x.exists(due));
            check.due("it is followed", due, () -> x.followed(due % 2));
        }
    }

    @Sentence(of = "Promise 4", text = "Throws `IndexOutOfBoundsException` if there is no such hill")
    static void writeByNoHill(Check check) {
        Missing.hill(check, (x, hill) -> x.write(hill));
    }

    @Sentence(of = "Promise 4", text = "Throws `IllegalStateException` if there are 16 blocks")
    static void writeWithSixteenBlocks(Check check) {
        check.due("the sixteenth", 15, () -> Ledgers.chain(14).write(0));
        Refusals.of(check, CallSentences::fullWithFlakes)
                .state("on a tip", x -> x.write(0))
                .state("on the root", x -> x.write(1))
                .leaveAllAsItWas();
        SnowLedger x = fullWithFlakes();
        check.refused("full", IllegalStateException.class, () -> x.write(1));
        x.melt(15);
        check.due("room, with the collected flakes", 2, () -> x.flakeCount(x.write(1)));
        check.refused("full again", IllegalStateException.class, () -> x.write(1));
    }

    /** Sixteen blocks; hill 0 follows the last, hill 1 the root, and each has collected flakes. */
    private static SnowLedger fullWithFlakes() {
        SnowLedger ledger = Ledgers.chain(15);
        ledger.addHill();
        ledger.collect(0, 1);
        ledger.collect(1, 2);
        ledger.collect(1, 3);
        return ledger;
    }

    @Sentence(of = "Promise 4", text = INVALID_BRANCH)
    static void writeOnInvalidBranch(Check check) {
        for (int block = 1; block <= 5; block++) {
            int broken = block;
            Refusals.of(check, () -> tamperedChain(broken))
                    .operation("on 5 with invalid " + block, x -> x.write(0)).leaveAllAsItWas();
        }
        check.due("a block above it is invalid", 6, () -> {
            SnowLedger x = tamperedChain(5);
            x.follow(0, 4);
            return x.write(0);
        });
        check.due("on the root", 6, () -> {
            SnowLedger x = tamperedChain(1);
            x.follow(0, 0);
            return x.write(0);
        });
        SnowLedger y = Ledgers.twoBranches();
        y.replaceFlake(4, 0, 11);
        check.due("the other branch is invalid", 5, () -> y.write(0));
        check.refused("its own branch is invalid", UnsupportedOperationException.class, () -> y.write(1));
        y.repair(4);
        check.due("repaired", 6, () -> y.write(1));
    }

    private static SnowLedger tamperedChain(int broken) {
        SnowLedger ledger = Ledgers.chain(5);
        ledger.collect(0, 1);
        ledger.replaceFlake(broken, 0, 8);
        return ledger;
    }

    @Sentence(of = "Promise 4", text = INVALID_BRANCH)
    static void writeOnBranchThatIsValidAgain(Check check) {
        SnowLedger x = tamperedChain(1);
        x.repair(1);
        check.refused("the next block is invalid by the repair", UnsupportedOperationException.class, () -> x.write(0));
        x.undo();
        x.replaceFlake(1, 0, 7);
        check.due("the old flake is back", 6, () -> x.write(0));
        x.replaceFlake(1, 0, 8);
        x.undo();
        check.due("the tampering is undone", 7, () -> x.write(0));
    }

    // Promise 5

    @Sentence(of = "Promise 5", text = "Lets a hill follow another block.")
    static void followedBlock(Check check) {
        SnowLedger x = Ledgers.twoBranches();
        for (int block : new int[] {4, 1, 0, 3, 3, 2}) {
            x.follow(2, block);
            check.due("followed", block, () -> x.followed(2));
        }
        check.due("the others stay", 2 + 4, () -> x.followed(0) + x.followed(1));
        check.due("the flakes stay", 1, () -> x.collected(2));
        check.due("written there", 2, () -> x.parentOf(x.write(2)));
        x.replaceFlake(1, 0, 11);
        x.follow(0, 1);
        check.due("an invalid one", 1, () -> x.followed(0));
    }

    @Sentence(of = "Promise 5", text = "Returns the number of the block that it followed before.")
    static void followedBefore(Check check) {
        SnowLedger x = Ledgers.twoBranches();
        check.due("a written one", 2, () -> x.follow(0, 1));
        check.due("a followed one", 1, () -> x.follow(0, 1));
        check.due("itself", 1, () -> x.follow(0, 0));
        check.due("the root", 0, () -> x.follow(0, 4));
        x.melt(3);
        check.due("the parent of a melted one", 0, () -> x.follow(0, 1));
    }

    @Sentence(of = "Promise 5", text = "Throws `IndexOutOfBoundsException` if there is no such hill")
    static void followByNoHill(Check check) {
        Missing.hill(check, (x, hill) -> x.follow(hill, 0));
    }

    @Sentence(of = "Promise 5", text = "Throws `NoSuchElementException` if there is no such block in the tree")
    static void followNoBlock(Check check) {
        Missing.block(check, (x, block) -> x.follow(0, block));
    }

    // Promise 6

    @Sentence(of = "Promise 6", text = "Melts a block.")
    static void meltedBlock(Check check) {
        SnowLedger x = Ledgers.twoBranches();
        x.melt(3);
        check.due("block 3", false, () -> x.exists(3));
        check.due("block 4 on it", false, () -> x.exists(4));
        check.due("the others", true, () -> x.exists(0) && x.exists(1) && x.exists(2));
        check.due("the flakes of the others", "2#6632<1h0,40", () -> Check.output(x, x.renderBlock(2)));
    }

    @Sentence(of = "Promise 6", text = "Returns the number of blocks that are removed.")
    static void meltedCount(Check check) {
        for (int block = 1; block <= 15; block++) {
            int number = block;
            check.due("block " + block + " of a chain", 16 - number, () -> Ledgers.chain(15).melt(number));
            check.due("block " + block + " of a star", 1, () -> Ledgers.star(15).melt(number));
        }
        check.due("the only one", 1, () -> Ledgers.chain(1).melt(1));
    }

    @Sentence(of = "Promise 6", text = "Throws `NoSuchElementException` if there is no such block in the tree")
    static void meltNoBlock(Check check) {
        Missing.writtenBlock(check, (x, block) -> x.melt(block));
    }

    @Sentence(of = "Promise 6", text = "Throws `IllegalArgumentException` if the block is the root")
    static void meltTheRoot(Check check) {
        check.due("block 1", 1, () -> Ledgers.chain(1).melt(1));
        Refusals.of(check, SnowLedger::new).argument("new", x -> x.melt(0)).leaveAllAsItWas();
        Refusals.of(check, Ledgers::twoBranches).argument("with children", x -> x.melt(0)).leaveAllAsItWas();
        Refusals.of(check, () -> Ledgers.chain(15)).argument("full", x -> x.melt(0)).leaveAllAsItWas();
    }

    // Promise 7

    @Sentence(of = "Promise 7", text = "Replaces a flake of a block.")
    static void replacedFlake(Check check) {
        SnowLedger x = Ledgers.withBlock(1, 2, 3, 4);
        Ledgers.write(x, 0, 5, 6);
        for (int position = 0; position < 4; position++) {
            int at = position;
            x.replaceFlake(1, position, 90 + position);
            check.due("position " + at, 90 + at, () -> x.flakeAt(1, at));
        }
        check.due("all of them", "1#" + x.hashOf(1) + "<0h0,90,91,92,93!", () -> Check.output(x, x.renderBlock(1)));
        check.due("the next block", "2#" + x.hashOf(2) + "<1h0,5,6", () -> Check.output(x, x.renderBlock(2)));
        check.due("their count", 4, () -> x.flakeCount(1));
    }

    @Sentence(of = "Promise 7", text = "Returns the old flake.")
    static void oldFlake(Check check) {
        SnowLedger x = Ledgers.withBlock(0, 99, 50, 7);
        check.due("0", 0, () -> x.replaceFlake(1, 0, 1));
        check.due("99", 99, () -> x.replaceFlake(1, 1, 99));
        check.due("99 again", 99, () -> x.replaceFlake(1, 1, 3));
        check.due("the new one", 1, () -> x.replaceFlake(1, 0, 2));
        check.due("the last", 7, () -> x.replaceFlake(1, 3, 0));
    }

    @Sentence(of = "Promise 7", text = "Throws `NoSuchElementException` if there is no such block in the tree")
    static void replaceInNoBlock(Check check) {
        Missing.blockWithFlake(check, (x, block) -> x.replaceFlake(block, 0, 5));
    }

    @Sentence(of = "Promise 7", text = {"Throws `IndexOutOfBoundsException` if the block has no such position",
        "`position`: the position of the flake, from 0"})
    static void replaceAtNoPosition(Check check) {
        int[] flakes = {10, 11, 12, 13};
        for (int size = 0; size <= 4; size++) {
            int count = size;
            Refusals refusals = Refusals.of(check, () -> Ledgers.between(Arrays.copyOf(flakes, count)));
            if (count > 0) {
                check.due("the first of " + count, 10, () -> Ledgers.between(flakes).replaceFlake(2, 0, 5));
                check.due("the last of " + count, 10 + count - 1,
                        () -> Ledgers.between(Arrays.copyOf(flakes, count)).replaceFlake(2, count - 1, 5));
            }
            for (int position : new int[] {-1, count, 4, 5, MIN, MAX, MAX / 4 + 1, MIN / 4}) {
                refusals.index(position + " of " + count, x -> x.replaceFlake(2, position, 5));
            }
            refusals.leaveAllAsItWas();
        }
        Refusals.of(check, Ledgers::twoBranches).index("the root", x -> x.replaceFlake(0, 0, 5)).leaveAllAsItWas();
    }

    @Sentence(of = "Promise 7", text = "Throws `IllegalArgumentException` if flake is not between 0 and 99")
    static void replaceByNoFlake(Check check) {
        check.due("0", 7, () -> Ledgers.chain(1).replaceFlake(1, 0, 0));
        check.due("99", 7, () -> Ledgers.chain(1).replaceFlake(1, 0, 99));
        Refusals.of(check, () -> Ledgers.chain(2))
                .argument("-1", x -> x.replaceFlake(1, 0, -1))
                .argument("100", x -> x.replaceFlake(1, 0, 100))
                .argument("the least number", x -> x.replaceFlake(1, 0, MIN))
                .argument("the greatest number", x -> x.replaceFlake(1, 0, MAX))
                .leaveAllAsItWas();
    }

    // Promise 8

    @Sentence(of = "Promise 8", text = REPAIRS)
    static void repairedBlock(Check check) {
        SnowLedger x = Ledgers.twoBranches();
        x.replaceFlake(1, 1, 99);
        x.repair(1);
        check.due("nonce", 1, () -> x.nonceOf(1));
        check.due("hash", 5172, () -> x.hashOf(1));
        check.due("valid", true, () -> x.isValid(1));
        check.due("rendered", "1#5172<0h0,10,99,30", () -> Check.output(x, x.renderBlock(1)));
        x.follow(0, 0);
        check.due("as one that is added now", 5172, () -> x.hashOf(Ledgers.write(x, 0, 10, 99, 30)));
        x.repair(2);
        check.due("on the parent's new hash", 7492, () -> x.hashOf(2));
        check.due("nonce of 2", 3, () -> x.nonceOf(2));
        check.due("the parent is as it was", 5172, () -> x.hashOf(1));
    }

    @Sentence(of = "Promise 8", text = REPAIRS)
    static void repairByAnotherNonceAlone(Check check) {
        SnowLedger x = Ledgers.withBlock(10, 40);
        x.replaceFlake(1, 0, 1);
        x.replaceFlake(1, 1, 18);
        check.due("nonce before", 3, () -> x.nonceOf(1));
        check.due("the same hash", 64, () -> x.repair(1));
        check.due("another nonce", 0, () -> x.nonceOf(1));
        check.due("valid", true, () -> x.isValid(1));
    }

    @Sentence(of = "Promise 8", text = "Its children can become invalid by that.")
    static void childrenOfTheRepaired(Check check) {
        SnowLedger x = Ledgers.chain(3);
        x.follow(0, 1);
        Ledgers.write(x, 0, 9);
        x.replaceFlake(1, 0, 8);
        check.due("valid before", true, () -> x.isValid(2) && x.isValid(4));
        x.repair(1);
        check.due("the children are not", false, () -> x.isValid(2) || x.isValid(4));
        check.due("the grandchild is", true, () -> x.isValid(3));
        x.repair(2);
        check.due("the grandchild is not", false, () -> x.isValid(3));
        check.due("the repaired child is", true, () -> x.isValid(2));
    }

    @Sentence(of = "Promise 8", text = "Its children can become invalid by that.")
    static void childrenCanStayValid(Check check) {
        SnowLedger x = Ledgers.withBlock(10, 40);
        x.write(0);
        x.replaceFlake(1, 0, 1);
        x.replaceFlake(1, 1, 18);
        x.repair(1);
        check.due("the parent's hash is the same", true, () -> x.isBranchValid(2));
    }

    @Sentence(of = "Promise 8", text = "Returns the stored hash after the call.")
    static void repairedHash(Check check) {
        for (int flake = 0; flake < 100; flake++) {
            if (flake == 7) {
                continue;
            }
            SnowLedger x = Ledgers.chain(1);
            x.replaceFlake(1, 0, flake);
            int due = Due.hash(1, flake, 0);
            check.due("with flake " + flake, due, () -> x.repair(1));
            check.due("stored", due, () -> x.hashOf(1));
            check.due("nonce", Due.nonce(1, x.flakeAt(1, 0), 0), () -> x.nonceOf(1));
        }
    }

    @Sentence(of = "Promise 8", text = "Throws `NoSuchElementException` if there is no such block in the tree")
    static void repairNoBlock(Check check) {
        Missing.invalidBlock(check, (x, block) -> x.repair(block));
    }

    @Sentence(of = "Promise 8", text = "Throws `IllegalArgumentException` if the block is the root")
    static void repairTheRoot(Check check) {
        Refusals.of(check, SnowLedger::new).argument("new", x -> x.repair(0)).leaveAllAsItWas();
        Refusals.of(check, () -> tamperedChain(1)).argument("below an invalid one", x -> x.repair(0)).leaveAllAsItWas();
        check.due("block 1", Due.hash(1, 8, 0), () -> tamperedChain(1).repair(1));
    }

    @Sentence(of = "Promise 8", text = "Throws `IllegalStateException` if the block is valid")
    static void repairAValidBlock(Check check) {
        Refusals.of(check, () -> tamperedChain(2))
                .state("below the invalid one", x -> x.repair(1))
                .state("above the invalid one", x -> x.repair(3))
                .state("the last", x -> x.repair(5))
                .leaveAllAsItWas();
        SnowLedger x = tamperedChain(2);
        x.repair(2);
        Refusals.of(check, () -> {
            SnowLedger again = tamperedChain(2);
            again.repair(2);
            return again;
        }).state("repaired already", again -> again.repair(2)).leaveAllAsItWas();
        check.due("invalid by the parent's repair", Due.hash(x.hashOf(2), 7, 0), () -> x.repair(3));
        SnowLedger y = Ledgers.withBlock(0, 0);
        y.replaceFlake(1, 0, 2);
        y.replaceFlake(1, 1, 55);
        check.refused("other flakes of the same root", IllegalStateException.class, () -> y.repair(1));
    }
}
