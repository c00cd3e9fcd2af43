import java.util.NoSuchElementException;

/** Promises 1 to 8: a new object, and the changes that are no scripts. */
public final class ChangesTest {
    private static final Check check = new Check();

    public static void main(String[] args) {
        newObject();
        addHill();
        collect();
        write();
        writeInFullTree();
        writeOnInvalidBranch();
        follow();
        melt();
        meltMovesHills();
        replaceFlake();
        repair();
        nonces();
        refusedChangesChangeNothing();
        check.end();
    }

    private static void newObject() {
        SnowLedger x = new SnowLedger();
        check.due("1 blockCount", 1, () -> x.blockCount());
        check.due("1 exists(0)", true, () -> x.exists(0));
        check.due("1 hillCount", 0, () -> x.hillCount());
        check.due("1 hashOf(0)", 1, () -> x.hashOf(0));
        check.due("1 flakeCount(0)", 0, () -> x.flakeCount(0));
        check.due("1 writtenTotal", 0, () -> x.writtenTotal());
        check.due("1 meltedTotal", 0, () -> x.meltedTotal());
        check.refused("1 undo", IllegalStateException.class, () -> x.undo());
    }

    private static void addHill() {
        SnowLedger x = new SnowLedger();
        for (int i = 0; i < 4; i++) {
            int hill = i;
            check.due("2 addHill", hill, () -> x.addHill());
            check.due("2 followed", 0, () -> x.followed(hill));
            check.due("2 collected", 0, () -> x.collected(hill));
        }
        check.refused("2 fifth addHill", IllegalStateException.class, () -> x.addHill());
        check.due("2 hillCount", 4, () -> x.hillCount());
        x.write(3);
        x.undo();
        x.collect(3, 1);
        x.undo();
        x.undo();
        check.due("2 addHill again", 3, () -> x.addHill());
        check.due("2 followed by the new hill", 0, () -> x.followed(3));
    }

    private static void collect() {
        SnowLedger x = new SnowLedger();
        check.refused("3 no hill", IndexOutOfBoundsException.class, () -> x.collect(0, 1));
        x.addHill();
        check.refused("3 hill -1", IndexOutOfBoundsException.class, () -> x.collect(-1, 100));
        check.refused("3 hill 1", IndexOutOfBoundsException.class, () -> x.collect(1, 1));
        check.refused("3 hill at the far end", IndexOutOfBoundsException.class,
                () -> x.collect(Integer.MAX_VALUE, 1));
        check.refused("3 flake -1", IllegalArgumentException.class, () -> x.collect(0, -1));
        check.refused("3 flake 100", IllegalArgumentException.class, () -> x.collect(0, 100));
        check.due("3 flake 0", 1, () -> x.collect(0, 0));
        check.due("3 flake 99", 2, () -> x.collect(0, 99));
        check.due("3 the same flake", 3, () -> x.collect(0, 99));
        check.due("3 the fourth", 4, () -> x.collect(0, 7));
        check.refused("3 the fifth", IllegalStateException.class, () -> x.collect(0, 7));
        check.refused("3 the fifth, no flake", IllegalArgumentException.class, () -> x.collect(0, 100));
        check.due("3 collected", 4, () -> x.collected(0));
    }

    private static void write() {
        SnowLedger x = new SnowLedger();
        check.refused("4 no hill", IndexOutOfBoundsException.class, () -> x.write(0));
        x.addHill();
        check.refused("4 hill -1", IndexOutOfBoundsException.class, () -> x.write(-1));
        x.collect(0, 9);
        x.collect(0, 3);
        x.collect(0, 9);
        check.due("4 first", 1, () -> x.write(0));
        check.due("4 collected", 0, () -> x.collected(0));
        check.due("4 followed", 1, () -> x.followed(0));
        check.due("4 flakeCount", 3, () -> x.flakeCount(1));
        check.due("4 flake 0", 9, () -> x.flakeAt(1, 0));
        check.due("4 flake 1", 3, () -> x.flakeAt(1, 1));
        check.due("4 flake 2", 9, () -> x.flakeAt(1, 2));
        check.due("4 second", 2, () -> x.write(0));
        check.due("4 parent", 1, () -> x.parentOf(2));
        check.due("4 no flakes", 0, () -> x.flakeCount(2));
    }

    private static void writeInFullTree() {
        SnowLedger x = Check.fullChain();
        x.addHill();
        x.collect(0, 5);
        check.refused("4 full", IllegalStateException.class, () -> x.write(0));
        check.refused("4 full, no hill", IndexOutOfBoundsException.class, () -> x.write(2));
        check.due("4 still collected", 1, () -> x.collected(0));
        check.due("4 still following", 15, () -> x.followed(0));
        x.melt(15);
        check.due("4 room again, next number", 16, () -> x.write(0));
        SnowLedger y = new SnowLedger();
        y.addHill();
        y.collect(0, 5);
        for (int i = 0; i < 15; i++) {
            y.write(0);
        }
        y.replaceFlake(1, 0, 6);
        check.refused("4 full before invalid", IllegalStateException.class, () -> y.write(0));
    }

    private static void writeOnInvalidBranch() {
        SnowLedger x = Check.twoBranches();
        x.replaceFlake(1, 1, 99);
        check.refused("4 invalid below", UnsupportedOperationException.class, () -> x.write(0));
        check.due("4 other branch", 5, () -> x.write(1));
        x.follow(0, 0);
        check.due("4 on the root", 6, () -> x.write(0));
    }

    private static void follow() {
        SnowLedger x = Check.twoBranches();
        check.due("5 follow", 2, () -> x.follow(0, 4));
        check.due("5 followed", 4, () -> x.followed(0));
        check.due("5 the same", 4, () -> x.follow(0, 4));
        check.due("5 the root", 0, () -> x.follow(2, 0));
        check.due("5 flakes stay", 1, () -> x.collected(2));
        check.refused("5 no block", NoSuchElementException.class, () -> x.follow(0, 5));
        check.refused("5 block -1", NoSuchElementException.class, () -> x.follow(0, -1));
        check.refused("5 no hill", IndexOutOfBoundsException.class, () -> x.follow(3, 5));
        check.refused("5 hill -1", IndexOutOfBoundsException.class, () -> x.follow(-1, 0));
        x.melt(4);
        check.refused("5 melted block", NoSuchElementException.class, () -> x.follow(0, 4));
    }

    private static void melt() {
        SnowLedger x = Check.twoBranches();
        check.refused("6 no block", NoSuchElementException.class, () -> x.melt(5));
        check.refused("6 block -1", NoSuchElementException.class, () -> x.melt(-1));
        check.refused("6 root", IllegalArgumentException.class, () -> x.melt(0));
        check.due("6 melt 1", 2, () -> x.melt(1));
        check.due("6 blockCount", 3, () -> x.blockCount());
        check.due("6 exists(2)", false, () -> x.exists(2));
        check.due("6 exists(4)", true, () -> x.exists(4));
        check.refused("6 melted already", NoSuchElementException.class, () -> x.melt(1));
        check.due("6 a tip", 1, () -> x.melt(4));
        check.due("6 a number is never used again", 5, () -> x.write(1));
    }

    private static void meltMovesHills() {
        SnowLedger x = Check.twoBranches();
        x.follow(2, 1);
        x.follow(1, 2);
        x.write(1);
        x.addHill();
        x.follow(3, 4);
        check.due("6 melt 2", 2, () -> x.melt(2));
        check.due("6 follower of 2", 1, () -> x.followed(0));
        check.due("6 follower of 5", 1, () -> x.followed(1));
        check.due("6 follower of the parent", 1, () -> x.followed(2));
        check.due("6 follower elsewhere", 4, () -> x.followed(3));
        check.due("6 flakes stay", 1, () -> x.collected(2));
        x.melt(1);
        check.due("6 all to the root", 0, () -> x.followed(0) + x.followed(1) + x.followed(2));
    }

    private static void replaceFlake() {
        SnowLedger x = Check.twoBranches();
        int hash = x.hashOf(1);
        int nonce = x.nonceOf(1);
        check.due("7 old flake", 20, () -> x.replaceFlake(1, 1, 99));
        check.due("7 new flake", 99, () -> x.flakeAt(1, 1));
        check.due("7 neighbours", 40, () -> x.flakeAt(1, 0) + x.flakeAt(1, 2));
        check.due("7 hash", hash, () -> x.hashOf(1));
        check.due("7 nonce", nonce, () -> x.nonceOf(1));
        check.due("7 last position", 30, () -> x.replaceFlake(1, 2, 0));
        check.refused("7 no block", NoSuchElementException.class, () -> x.replaceFlake(9, 9, 100));
        check.refused("7 position 3", IndexOutOfBoundsException.class, () -> x.replaceFlake(1, 3, 100));
        check.refused("7 position -1", IndexOutOfBoundsException.class, () -> x.replaceFlake(1, -1, 0));
        check.refused("7 root", IndexOutOfBoundsException.class, () -> x.replaceFlake(0, 0, 0));
        check.refused("7 no flakes", IndexOutOfBoundsException.class, () -> x.replaceFlake(3, 0, 0));
        check.refused("7 flake 100", IllegalArgumentException.class, () -> x.replaceFlake(1, 0, 100));
        check.refused("7 flake -1", IllegalArgumentException.class, () -> x.replaceFlake(1, 0, -1));
        check.refused("7 position at the far end", IndexOutOfBoundsException.class,
                () -> x.replaceFlake(1, Integer.MIN_VALUE, 0));
    }

    private static void repair() {
        SnowLedger x = Check.twoBranches();
        check.refused("8 valid", IllegalStateException.class, () -> x.repair(1));
        check.refused("8 root", IllegalArgumentException.class, () -> x.repair(0));
        check.refused("8 no block", NoSuchElementException.class, () -> x.repair(7));
        x.replaceFlake(1, 1, 99);
        check.due("8 repair 1", 5172, () -> x.repair(1));
        check.due("8 nonce", 1, () -> x.nonceOf(1));
        check.due("8 hash", 5172, () -> x.hashOf(1));
        check.due("8 valid now", true, () -> x.isValid(1));
        check.due("8 the child is not", false, () -> x.isValid(2));
        check.due("8 repair 2", 7492, () -> x.repair(2));
        check.due("8 nonce of 2", 3, () -> x.nonceOf(2));
        check.refused("8 valid again", IllegalStateException.class, () -> x.repair(2));
    }

    /** Each nonce that there is, and that a nonce of 0 is taken where the hash needs none. */
    private static void nonces() {
        boolean[] met = new boolean[4];
        for (int flake = 0; flake < 100; flake++) {
            SnowLedger x = new SnowLedger();
            x.addHill();
            x.collect(0, flake);
            int hash = (61 + 29 * flake) % 9973;
            int nonce = (4 - hash % 4) % 4;
            met[nonce] = true;
            int predicted = x.nextHash(0);
            x.write(0);
            check.due("4 nonce with flake " + flake, nonce, () -> x.nonceOf(1));
            check.due("4 hash with flake " + flake, hash + nonce, () -> x.hashOf(1));
            check.due("40 hash with flake " + flake, hash + nonce, () -> predicted);
        }
        check.due("4 all nonces", true, () -> met[0] && met[1] && met[2] && met[3]);
    }

    private static void refusedChangesChangeNothing() {
        SnowLedger x = new SnowLedger();
        x.addHill();
        check.refused("flake", IllegalArgumentException.class, () -> x.collect(0, 100));
        check.refused("block", NoSuchElementException.class, () -> x.follow(0, 1));
        check.refused("root", IllegalArgumentException.class, () -> x.melt(0));
        check.refused("root", IllegalArgumentException.class, () -> x.repair(0));
        check.refused("hill", IndexOutOfBoundsException.class, () -> x.write(1));
        check.due("a refused call is no change", 0, () -> x.undo());
        check.due("the hill was the change", 0, () -> x.hillCount());
    }
}
