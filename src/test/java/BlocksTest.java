import java.util.NoSuchElementException;

/** Promises 9 to 24: what is told of a block, and whether it is valid. */
public final class BlocksTest {
    private static final Check check = new Check();

    interface Query {
        Object of(SnowLedger ledger, int block);
    }

    public static void main(String[] args) {
        countsAndParents();
        hashes();
        rootsOfFlakes();
        flakesBesideMeltedOnes();
        heights();
        validity();
        validAgainByOtherFlakes();
        missingBlocks();
        check.end();
    }

    private static void countsAndParents() {
        SnowLedger x = Check.twoBranches();
        check.due("9 blockCount", 5, () -> x.blockCount());
        check.due("10 exists(4)", true, () -> x.exists(4));
        check.due("10 exists(5)", false, () -> x.exists(5));
        check.due("10 exists(-1)", false, () -> x.exists(-1));
        check.due("10 exists(MIN)", false, () -> x.exists(Integer.MIN_VALUE));
        check.due("10 exists(MAX)", false, () -> x.exists(Integer.MAX_VALUE));
        check.due("11 parentOf(1)", 0, () -> x.parentOf(1));
        check.due("11 parentOf(2)", 1, () -> x.parentOf(2));
        check.due("11 parentOf(4)", 3, () -> x.parentOf(4));
        check.refused("11 root", NoSuchElementException.class, () -> x.parentOf(0));
        check.due("12 childCount(0)", 2, () -> x.childCount(0));
        check.due("12 childCount(1)", 1, () -> x.childCount(1));
        check.due("12 childCount(2)", 0, () -> x.childCount(2));
        check.due("13 writerOf(2)", 0, () -> x.writerOf(2));
        check.due("13 writerOf(3)", 1, () -> x.writerOf(3));
        check.refused("13 root", NoSuchElementException.class, () -> x.writerOf(0));
        check.due("14 flakeCount(0)", 0, () -> x.flakeCount(0));
        check.due("14 flakeCount(1)", 3, () -> x.flakeCount(1));
        check.due("14 flakeCount(3)", 0, () -> x.flakeCount(3));
        check.due("15 flakeAt(1, 0)", 10, () -> x.flakeAt(1, 0));
        check.due("15 flakeAt(1, 2)", 30, () -> x.flakeAt(1, 2));
        check.refused("15 position 3", IndexOutOfBoundsException.class, () -> x.flakeAt(1, 3));
        check.refused("15 position -1", IndexOutOfBoundsException.class, () -> x.flakeAt(1, -1));
        check.refused("15 root", IndexOutOfBoundsException.class, () -> x.flakeAt(0, 0));
        check.refused("15 no block", NoSuchElementException.class, () -> x.flakeAt(5, -1));
        x.melt(1);
        check.due("9 after a melt", 3, () -> x.blockCount());
        check.due("12 after a melt", 1, () -> x.childCount(0));
    }

    private static void hashes() {
        SnowLedger x = Check.twoBranches();
        check.due("16 hashOf(0)", 1, () -> x.hashOf(0));
        check.due("16 hashOf(1)", 3196, () -> x.hashOf(1));
        check.due("16 hashOf(2)", 6632, () -> x.hashOf(2));
        check.due("16 hashOf(3)", 76, () -> x.hashOf(3));
        check.due("16 hashOf(4)", 4652, () -> x.hashOf(4));
        check.due("17 nonceOf(1)", 3, () -> x.nonceOf(1));
        check.due("17 nonceOf(3)", 2, () -> x.nonceOf(3));
        check.due("17 nonceOf(4)", 3, () -> x.nonceOf(4));
        check.refused("17 root", NoSuchElementException.class, () -> x.nonceOf(0));
    }

    private static void rootsOfFlakes() {
        SnowLedger x = new SnowLedger();
        x.addHill();
        writeWith(x);
        writeWith(x, 5);
        writeWith(x, 99, 0);
        writeWith(x, 1, 2, 3);
        writeWith(x, 1, 2, 3, 4);
        int[] due = {0, 0, 5, 85, 818, 110};
        for (int block = 0; block < due.length; block++) {
            int number = block;
            check.due("18 rootOfFlakes " + block, due[block], () -> x.rootOfFlakes(number));
            check.due("19 rootOfFlakesByHalves " + block, due[block], () -> x.rootOfFlakesByHalves(number));
        }
        x.replaceFlake(3, 0, 2);
        x.replaceFlake(3, 1, 55);
        check.due("18 present flakes", 7, () -> x.rootOfFlakes(3));
        check.due("19 present flakes", 7, () -> x.rootOfFlakesByHalves(3));
    }

    private static void writeWith(SnowLedger ledger, int... flakes) {
        for (int flake : flakes) {
            ledger.collect(0, flake);
        }
        ledger.write(0);
    }

    /** A block that takes the room of a melted one has its own flakes alone, and leaves those of its neighbours. */
    private static void flakesBesideMeltedOnes() {
        SnowLedger x = new SnowLedger();
        x.addHill();
        x.addHill();
        writeWith(x, 11, 12, 13, 14);
        x.follow(0, 0);
        writeWith(x, 21);
        x.melt(1);
        x.collect(1, 9);
        x.follow(0, 0);
        writeWith(x);
        check.due("14 none", 0, () -> x.flakeCount(3));
        check.due("18 none", 0, () -> x.rootOfFlakes(3));
        check.due("19 none", 0, () -> x.rootOfFlakesByHalves(3));
        check.refused("31 melted flake", NoSuchElementException.class, () -> x.blockWith(11));
        x.melt(3);
        writeWith(x, 1, 2, 3, 4);
        check.due("15 neighbour", 21, () -> x.flakeAt(2, 0));
        check.due("18 neighbour", 21, () -> x.rootOfFlakes(2));
        check.due("22 neighbour", true, () -> x.isValid(2));
        check.due("19 all four", 110, () -> x.rootOfFlakesByHalves(4));
    }

    private static void heights() {
        SnowLedger x = Check.twoBranches();
        int[] due = {0, 1, 2, 1, 2};
        for (int block = 0; block < due.length; block++) {
            int number = block;
            check.due("20 heightOf " + block, due[block], () -> x.heightOf(number));
            check.due("21 heightFromRoot " + block, due[block], () -> x.heightFromRoot(number));
        }
        SnowLedger y = Check.fullChain();
        check.due("20 the greatest", 15, () -> y.heightOf(15));
        check.due("21 the greatest", 15, () -> y.heightFromRoot(15));
        y.melt(10);
        y.follow(0, 2);
        check.due("numbers go on", 16, () -> y.write(0));
        check.due("20 after a melt", 3, () -> y.heightOf(16));
        check.due("21 after a melt", 3, () -> y.heightFromRoot(16));
    }

    private static void validity() {
        SnowLedger x = Check.twoBranches();
        check.due("22 root", true, () -> x.isValid(0));
        check.due("22 untouched", true, () -> x.isValid(2));
        check.due("23 untouched", true, () -> x.isBranchValid(2));
        check.refused("24 valid branch", NoSuchElementException.class, () -> x.firstInvalid(2));
        check.refused("24 root", NoSuchElementException.class, () -> x.firstInvalid(0));
        x.replaceFlake(1, 0, 11);
        check.due("22 tampered", false, () -> x.isValid(1));
        check.due("22 child of the tampered", true, () -> x.isValid(2));
        check.due("23 child of the tampered", false, () -> x.isBranchValid(2));
        check.due("23 below the tampered", true, () -> x.isBranchValid(0));
        check.due("23 other branch", true, () -> x.isBranchValid(4));
        check.due("24 child of the tampered", 1, () -> x.firstInvalid(2));
        x.replaceFlake(2, 0, 41);
        check.due("24 the lowest of two", 1, () -> x.firstInvalid(2));
        x.repair(1);
        check.due("24 the next", 2, () -> x.firstInvalid(2));
        check.refused("24 repaired", NoSuchElementException.class, () -> x.firstInvalid(1));
    }

    private static void validAgainByOtherFlakes() {
        SnowLedger x = new SnowLedger();
        x.addHill();
        writeWith(x, 0, 0);
        x.replaceFlake(1, 0, 2);
        check.due("22 one flake replaced", false, () -> x.isValid(1));
        x.replaceFlake(1, 1, 55);
        check.due("22 the same root by other flakes", true, () -> x.isValid(1));
        x.replaceFlake(1, 0, 0);
        x.replaceFlake(1, 1, 0);
        check.due("22 the old flakes", true, () -> x.isValid(1));
    }

    private static void missingBlocks() {
        SnowLedger x = Check.twoBranches();
        x.melt(4);
        for (int block : new int[] {-1, 4, 5, 16, Integer.MIN_VALUE, Integer.MAX_VALUE}) {
            missing("11", x, block, (ledger, number) -> ledger.parentOf(number));
            missing("12", x, block, (ledger, number) -> ledger.childCount(number));
            missing("13", x, block, (ledger, number) -> ledger.writerOf(number));
            missing("14", x, block, (ledger, number) -> ledger.flakeCount(number));
            missing("15", x, block, (ledger, number) -> ledger.flakeAt(number, 0));
            missing("16", x, block, (ledger, number) -> ledger.hashOf(number));
            missing("17", x, block, (ledger, number) -> ledger.nonceOf(number));
            missing("18", x, block, (ledger, number) -> ledger.rootOfFlakes(number));
            missing("19", x, block, (ledger, number) -> ledger.rootOfFlakesByHalves(number));
            missing("20", x, block, (ledger, number) -> ledger.heightOf(number));
            missing("21", x, block, (ledger, number) -> ledger.heightFromRoot(number));
            missing("22", x, block, (ledger, number) -> ledger.isValid(number));
            missing("23", x, block, (ledger, number) -> ledger.isBranchValid(number));
            missing("24", x, block, (ledger, number) -> ledger.firstInvalid(number));
        }
    }

    private static void missing(String promise, SnowLedger ledger, int block, Query query) {
        check.refused(promise + " no block " + block, NoSuchElementException.class, () -> query.of(ledger, block));
    }
}
