import java.util.NoSuchElementException;

/** Promises 25 to 45: branches, tips, the whole tree and hills. */
public final class TreeTest {
    private static final Check check = new Check();

    public static void main(String[] args) {
        branchesAndForks();
        meltSizes();
        tips();
        tipsOfEqualHash();
        bestBlocks();
        flakesInTheTree();
        flakesInBranches();
        heightsCounted();
        repairs();
        hills();
        predictedHashes();
        totals();
        shares();
        consistency();
        fullChain();
        fullStar();
        missingBlocks();
        check.end();
    }

    private static void branchesAndForks() {
        SnowLedger x = Check.twoBranches();
        check.due("25 parent", true, () -> x.isInBranch(1, 2));
        check.due("25 child", false, () -> x.isInBranch(2, 1));
        check.due("25 itself", true, () -> x.isInBranch(2, 2));
        check.due("25 root", true, () -> x.isInBranch(0, 4));
        check.due("25 other branch", false, () -> x.isInBranch(1, 4));
        check.due("26 two branches", 0, () -> x.forkOf(2, 4));
        check.due("26 itself", 2, () -> x.forkOf(2, 2));
        check.due("26 parent first", 1, () -> x.forkOf(1, 2));
        check.due("26 child first", 1, () -> x.forkOf(2, 1));
        x.follow(2, 1);
        x.write(2);
        check.due("26 above the root", 1, () -> x.forkOf(2, 5));
        check.due("26 above the root, turned", 1, () -> x.forkOf(5, 2));
    }

    private static void meltSizes() {
        SnowLedger x = Check.twoBranches();
        check.due("27 root", 5, () -> x.meltSize(0));
        check.due("27 inner", 2, () -> x.meltSize(3));
        check.due("27 tip", 1, () -> x.meltSize(4));
        check.due("27 removes nothing", 5, () -> x.blockCount());
    }

    private static void tips() {
        SnowLedger x = new SnowLedger();
        check.due("28 root alone", 1, () -> x.tipCount());
        check.due("29 root alone", 0, () -> x.tipAtRank(0));
        check.refused("29 rank 1", NoSuchElementException.class, () -> x.tipAtRank(1));
        SnowLedger y = Check.twoBranches();
        y.write(2);
        check.due("28 three", 3, () -> y.tipCount());
        check.due("29 smaller hash first", 4, () -> y.tipAtRank(0));
        check.due("29 greater hash", 2, () -> y.tipAtRank(1));
        check.due("29 less height last", 5, () -> y.tipAtRank(2));
        check.refused("29 rank 3", NoSuchElementException.class, () -> y.tipAtRank(3));
        check.refused("29 rank -1", NoSuchElementException.class, () -> y.tipAtRank(-1));
    }

    /** The same writer, parent and flakes give the same hash; a slot that was freed is used by the greater number. */
    private static void tipsOfEqualHash() {
        SnowLedger x = new SnowLedger();
        x.addHill();
        x.write(0);
        x.follow(0, 0);
        x.write(0);
        x.melt(1);
        x.follow(0, 0);
        x.write(0);
        check.due("29 equal hashes", true, () -> x.hashOf(2) == x.hashOf(3));
        check.due("29 lower number first", 2, () -> x.tipAtRank(0));
        check.due("29 greater number", 3, () -> x.tipAtRank(1));
        check.due("30 lower number", 2, () -> x.bestValidBlock());
    }

    private static void bestBlocks() {
        SnowLedger x = new SnowLedger();
        check.due("30 root alone", 0, () -> x.bestValidBlock());
        SnowLedger y = Check.twoBranches();
        check.due("30 smallest hash", 4, () -> y.bestValidBlock());
        y.replaceFlake(4, 0, 11);
        check.due("30 the other tip", 2, () -> y.bestValidBlock());
        y.replaceFlake(1, 0, 11);
        check.due("30 valid, branch invalid; no tip", 3, () -> y.bestValidBlock());
        SnowLedger z = new SnowLedger();
        z.addHill();
        z.collect(0, 1);
        z.write(0);
        z.replaceFlake(1, 0, 2);
        check.due("30 only the root", 0, () -> z.bestValidBlock());
    }

    private static void flakesInTheTree() {
        SnowLedger x = Check.twoBranches();
        check.due("31 least height", 1, () -> x.blockWith(10));
        check.due("31 lowest number", 2, () -> x.blockWith(40));
        check.due("31 last position", 1, () -> x.blockWith(30));
        check.refused("31 collected only", NoSuchElementException.class, () -> x.blockWith(5));
        check.refused("31 flake 0", NoSuchElementException.class, () -> x.blockWith(0));
        check.refused("31 flake -1", IllegalArgumentException.class, () -> x.blockWith(-1));
        check.refused("31 flake 100", IllegalArgumentException.class, () -> x.blockWith(100));
        x.replaceFlake(1, 2, 99);
        check.due("31 present flakes", 1, () -> x.blockWith(99));
        check.refused("31 replaced flake", NoSuchElementException.class, () -> x.blockWith(30));
        x.melt(2);
        check.due("31 after a melt", 4, () -> x.blockWith(40));
        x.melt(1);
        check.refused("31 melted", NoSuchElementException.class, () -> x.blockWith(20));
        x.follow(2, 0);
        x.collect(2, 40);
        x.write(2);
        check.due("31 lower but later", 5, () -> x.blockWith(40));
    }

    private static void flakesInBranches() {
        SnowLedger x = Check.twoBranches();
        check.due("33 root", 0, () -> x.differentFlakes(0));
        check.due("33 branch", 4, () -> x.differentFlakes(2));
        check.due("33 half", 3, () -> x.differentFlakes(1));
        check.due("34 two branches", 2, () -> x.commonFlakes(2, 4));
        check.due("34 the same", 4, () -> x.commonFlakes(2, 2));
        check.due("34 the root", 0, () -> x.commonFlakes(2, 0));
        check.due("34 one flake", 1, () -> x.commonFlakes(4, 1));
        x.replaceFlake(1, 1, 10);
        x.replaceFlake(1, 2, 10);
        check.due("33 equal flakes count once", 2, () -> x.differentFlakes(2));
        x.replaceFlake(1, 0, 0);
        x.replaceFlake(1, 1, 99);
        check.due("33 0 and 99", 4, () -> x.differentFlakes(2));
    }

    private static void heightsCounted() {
        SnowLedger x = Check.twoBranches();
        check.due("32 height 0", 1, () -> x.blocksAtHeight(0));
        check.due("32 height 1", 2, () -> x.blocksAtHeight(1));
        check.due("32 height 2", 2, () -> x.blocksAtHeight(2));
        check.due("32 height 3", 0, () -> x.blocksAtHeight(3));
        check.due("32 height 15", 0, () -> x.blocksAtHeight(15));
        check.due("32 height 15, full", 1, () -> Check.fullChain().blocksAtHeight(15));
        check.refused("32 height 16", IllegalArgumentException.class, () -> x.blocksAtHeight(16));
        check.refused("32 height -1", IllegalArgumentException.class, () -> x.blocksAtHeight(-1));
        x.melt(1);
        check.due("32 after a melt", 1, () -> x.blocksAtHeight(2));
        check.due("32 free slots are no blocks", 1, () -> x.blocksAtHeight(0));
    }

    private static void repairs() {
        SnowLedger x = Check.twoBranches();
        check.due("35 valid branch", 0, () -> x.repairsNeeded(2));
        check.due("35 root", 0, () -> x.repairsNeeded(0));
        x.replaceFlake(1, 0, 11);
        check.due("35 the child falls too", 2, () -> x.repairsNeeded(2));
        check.due("35 itself", 1, () -> x.repairsNeeded(1));
        check.due("35 other branch", 0, () -> x.repairsNeeded(4));
        check.due("35 repairs nothing", false, () -> x.isValid(1));
        x.repair(1);
        check.due("35 one is left", 1, () -> x.repairsNeeded(2));
        x.repair(2);
        check.due("35 none is left", 0, () -> x.repairsNeeded(2));
        repairThatMendsTheChild();
    }

    /** Block 1 was repaired with 1 and has its first flake back: mending it makes its child valid again. */
    private static void repairThatMendsTheChild() {
        SnowLedger x = new SnowLedger();
        x.addHill();
        x.collect(0, 10);
        x.write(0);
        x.write(0);
        x.replaceFlake(1, 0, 11);
        x.repair(1);
        x.replaceFlake(1, 0, 10);
        check.due("35 both invalid", false, () -> x.isValid(1) || x.isValid(2));
        check.due("35 one repair mends both", 1, () -> x.repairsNeeded(2));
        x.repair(1);
        check.due("35 the child is valid", true, () -> x.isBranchValid(2));
    }

    private static void hills() {
        SnowLedger x = Check.twoBranches();
        check.due("36 hillCount", 3, () -> x.hillCount());
        check.due("37 followed", 2, () -> x.followed(0));
        check.due("37 root", 0, () -> x.followed(2));
        check.due("38 collected", 1, () -> x.collected(2));
        check.due("38 none", 0, () -> x.collected(0));
        check.due("39 two", 2, () -> x.blocksBy(1));
        check.due("39 none", 0, () -> x.blocksBy(2));
        x.melt(4);
        check.due("39 in the tree only", 1, () -> x.blocksBy(1));
        for (int hill : new int[] {-1, 3, 4, Integer.MIN_VALUE, Integer.MAX_VALUE}) {
            check.refused("37 hill " + hill, IndexOutOfBoundsException.class, () -> x.followed(hill));
            check.refused("38 hill " + hill, IndexOutOfBoundsException.class, () -> x.collected(hill));
            check.refused("39 hill " + hill, IndexOutOfBoundsException.class, () -> x.blocksBy(hill));
            check.refused("40 hill " + hill, IndexOutOfBoundsException.class, () -> x.nextHash(hill));
        }
    }

    private static void predictedHashes() {
        SnowLedger x = new SnowLedger();
        x.addHill();
        x.addHill();
        check.due("40 no flakes", 76, () -> x.nextHash(1));
        x.collect(0, 10);
        x.collect(0, 20);
        x.collect(0, 30);
        check.due("40 flakes", 3196, () -> x.nextHash(0));
        check.due("40 the written block", 1, () -> x.write(0));
        check.due("40 its hash", 3196, () -> x.hashOf(1));
        x.collect(0, 40);
        x.replaceFlake(1, 0, 11);
        check.due("40 on an invalid block", 6632, () -> x.nextHash(0));
        SnowLedger y = Check.fullChain();
        check.due("40 in a full tree", 0, () -> y.nextHash(0) % 4);
    }

    private static void totals() {
        SnowLedger x = Check.twoBranches();
        check.due("41 writtenTotal", 4, () -> x.writtenTotal());
        check.due("42 meltedTotal", 0, () -> x.meltedTotal());
        x.melt(1);
        x.write(0);
        x.melt(4);
        check.due("41 melting takes none back", 5, () -> x.writtenTotal());
        check.due("42 three melted", 3, () -> x.meltedTotal());
        x.undo();
        check.due("42 undone", 2, () -> x.meltedTotal());
        x.undo();
        check.due("41 undone", 4, () -> x.writtenTotal());
    }

    private static void shares() {
        SnowLedger x = new SnowLedger();
        check.due("43 root alone", 0.0, () -> x.meanTipHeight());
        check.due("44 root alone", 1.0f, () -> x.validShare());
        SnowLedger y = Check.twoBranches();
        check.due("43 two tips", 2.0, () -> y.meanTipHeight());
        y.write(2);
        check.due("43 three tips", 5.0 / 3.0, () -> y.meanTipHeight());
        y.replaceFlake(1, 0, 11);
        check.due("44 five of six", 5.0f / 6.0f, () -> y.validShare());
        y.repair(1);
        y.replaceFlake(1, 0, 10);
        check.due("44 four of six", 4.0f / 6.0f, () -> y.validShare());
    }

    private static void consistency() {
        SnowLedger x = new SnowLedger();
        check.due("45 new", true, () -> x.isConsistent());
        SnowLedger y = Check.twoBranches();
        y.replaceFlake(1, 0, 11);
        check.due("45 tampered", true, () -> y.isConsistent());
        y.repair(1);
        y.melt(3);
        check.due("45 repaired and melted", true, () -> y.isConsistent());
        y.undo();
        check.due("45 undone", true, () -> y.isConsistent());
        check.due("45 full", true, () -> Check.fullChain().isConsistent());
    }

    /** The longest branch: block 1 holds 7, block 15 holds 7 and 8. */
    private static void fullChain() {
        SnowLedger x = new SnowLedger();
        x.addHill();
        x.collect(0, 7);
        for (int i = 0; i < 14; i++) {
            x.write(0);
        }
        x.addHill();
        x.follow(1, 14);
        x.collect(1, 7);
        x.collect(1, 8);
        x.write(1);
        check.due("12 childCount(14)", 1, () -> x.childCount(14));
        check.due("25 root and last", true, () -> x.isInBranch(0, 15));
        check.due("26 root and last", 0, () -> x.forkOf(15, 0));
        check.due("26 last and root", 0, () -> x.forkOf(0, 15));
        check.due("26 first and last", 1, () -> x.forkOf(15, 1));
        check.due("27 all", 16, () -> x.meltSize(0));
        check.due("27 the last", 1, () -> x.meltSize(15));
        check.due("28 one tip", 1, () -> x.tipCount());
        check.due("29 the last", 15, () -> x.tipAtRank(0));
        check.due("30 the last", 15, () -> x.bestValidBlock());
        check.due("31 the first", 1, () -> x.blockWith(7));
        check.due("31 the last", 15, () -> x.blockWith(8));
        check.due("33 both", 2, () -> x.differentFlakes(15));
        check.due("34 in both", 1, () -> x.commonFlakes(15, 14));
        check.due("39 the last", 1, () -> x.blocksBy(1));
        check.due("43 fifteen", 15.0, () -> x.meanTipHeight());
        check.due("44 all", 1.0f, () -> x.validShare());
        x.replaceFlake(15, 0, 9);
        check.due("24 the last", 15, () -> x.firstInvalid(15));
        check.due("35 the last", 1, () -> x.repairsNeeded(15));
        x.replaceFlake(1, 0, 9);
        check.due("24 the first", 1, () -> x.firstInvalid(15));
        check.due("30 only the root", 0, () -> x.bestValidBlock());
        check.due("44 fourteen", 14.0f / 16.0f, () -> x.validShare());
        x.undo();
        x.undo();
        check.due("6 melt all but the root", 15, () -> x.melt(1));
        check.due("9 the root is left", 1, () -> x.blockCount());
    }

    /** All 15 blocks on the root: those of hill 0 have a greater hash than the one of hill 1, which is the last. */
    private static void fullStar() {
        SnowLedger x = new SnowLedger();
        x.addHill();
        x.addHill();
        for (int i = 0; i < 14; i++) {
            x.follow(0, 0);
            x.collect(0, 50);
            x.write(0);
        }
        x.write(1);
        check.due("12 root", 15, () -> x.childCount(0));
        check.due("28 tips", 15, () -> x.tipCount());
        check.due("29 smallest hash", 15, () -> x.tipAtRank(0));
        check.due("29 lowest number", 1, () -> x.tipAtRank(1));
        check.due("29 the last", 14, () -> x.tipAtRank(14));
        check.refused("29 rank 15", NoSuchElementException.class, () -> x.tipAtRank(15));
        check.due("32 height 1", 15, () -> x.blocksAtHeight(1));
        check.due("30 smallest hash", 15, () -> x.bestValidBlock());
        check.due("31 lowest number", 1, () -> x.blockWith(50));
        check.due("43 one", 1.0, () -> x.meanTipHeight());
        x.melt(1);
        x.follow(0, 0);
        x.collect(0, 50);
        check.due("4 the next number", 16, () -> x.write(0));
        check.due("31 lowest number, not oldest place", 2, () -> x.blockWith(50));
        check.due("29 lowest number, not oldest place", 2, () -> x.tipAtRank(1));
        check.due("29 the latest", 16, () -> x.tipAtRank(14));
    }

    private static void missingBlocks() {
        SnowLedger x = Check.twoBranches();
        x.melt(4);
        for (int block : new int[] {-1, 4, 5, Integer.MIN_VALUE, Integer.MAX_VALUE}) {
            Class<? extends RuntimeException> due = NoSuchElementException.class;
            check.refused("25 ancestor " + block, due, () -> x.isInBranch(block, 0));
            check.refused("25 block " + block, due, () -> x.isInBranch(0, block));
            check.refused("26 first " + block, due, () -> x.forkOf(block, 0));
            check.refused("26 second " + block, due, () -> x.forkOf(0, block));
            check.refused("27 block " + block, due, () -> x.meltSize(block));
            check.refused("33 block " + block, due, () -> x.differentFlakes(block));
            check.refused("34 first " + block, due, () -> x.commonFlakes(block, 0));
            check.refused("34 second " + block, due, () -> x.commonFlakes(0, block));
            check.refused("35 block " + block, due, () -> x.repairsNeeded(block));
        }
    }
}
