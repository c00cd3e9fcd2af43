/** Promises 53 to 55: undo and the snapshot. */
public final class UndoTest {
    private static final Check check = new Check();

    public static void main(String[] args) {
        undoOfEachChange();
        eightChanges();
        undoneAndGoneOn();
        changesThatKeepTheState();
        queriesAreNoChanges();
        typedTextIsKept();
        snapshot();
        snapshotCoversAll();
        restoreForgetsChanges();
        check.end();
    }

    interface Change {
        void on(SnowLedger ledger);
    }

    private static void undoOfEachChange() {
        undoOf("addHill", x -> x.addHill());
        undoOf("collect", x -> x.collect(1, 3));
        undoOf("write", x -> x.write(2));
        undoOf("follow", x -> x.follow(2, 4));
        undoOf("melt", x -> x.melt(3));
        undoOf("replaceFlake", x -> x.replaceFlake(1, 0, 11));
        undoOf("repair", x -> x.repair(4));
        undoOf("runScript", x -> Check.run(x, "melt 1;write 0;write 2"));
    }

    /** Each change has a ledger of its own, since one is good for 512 calls and a description takes many. */
    private static void undoOf(String what, Change change) {
        SnowLedger x = Check.twoBranches();
        x.replaceFlake(4, 0, 12);
        String before = describe(x);
        change.on(x);
        check.due("53 " + what + " is one change", 7, () -> x.undo());
        check.due("53 " + what + " undone", before, () -> describe(x));
    }

    /** All that a ledger tells of its state, but for the number of the next block. */
    private static String describe(SnowLedger ledger) {
        StringBuilder text = new StringBuilder();
        for (int block = 0; block < 20; block++) {
            if (ledger.exists(block)) {
                text.append(Check.output(ledger, ledger.renderBlock(block))).append(' ');
                text.append(block == 0 ? 0 : ledger.nonceOf(block)).append(' ');
            }
        }
        for (int hill = 0; hill < ledger.hillCount(); hill++) {
            text.append('h').append(ledger.followed(hill)).append(':').append(ledger.collected(hill));
            text.append(':').append(ledger.nextHash(hill)).append(' ');
        }
        return text.append(ledger.writtenTotal()).append(' ').append(ledger.meltedTotal()).toString();
    }

    private static void eightChanges() {
        SnowLedger x = new SnowLedger();
        check.refused("53 nothing", IllegalStateException.class, () -> x.undo());
        x.addHill();
        for (int i = 0; i < 9; i++) {
            x.write(0);
        }
        for (int left = 7; left >= 0; left--) {
            int number = left + 2;
            check.due("53 undo", left, () -> x.undo());
            check.due("53 tip", number - 1, () -> x.followed(0));
            check.due("53 gone", false, () -> x.exists(number));
        }
        check.refused("53 the ninth", IllegalStateException.class, () -> x.undo());
        check.due("53 the number is taken back", 2, () -> x.write(0));
    }

    private static void undoneAndGoneOn() {
        SnowLedger x = Check.twoBranches();
        check.due("53 seven left", 7, () -> x.undo());
        check.due("53 six left", 6, () -> x.undo());
        check.due("53 undone write", false, () -> x.exists(4));
        x.follow(1, 2);
        check.due("53 six again", 6, () -> x.undo());
        check.due("53 follow undone", 3, () -> x.followed(1));
        check.due("53 two flakes before the write", 2, () -> x.collected(1));
        for (int i = 0; i < 20; i++) {
            x.follow(1, i % 2);
        }
        check.due("53 eight at most", 7, () -> x.undo());
        check.due("53 the latest first", 0, () -> x.followed(1));
    }

    private static void changesThatKeepTheState() {
        SnowLedger x = Check.twoBranches();
        x.save();
        x.restore();
        x.follow(0, 2);
        x.replaceFlake(1, 0, 10);
        check.due("53 the same flake is a change", 1, () -> x.undo());
        check.due("53 the same block is a change", 0, () -> x.undo());
    }

    private static void queriesAreNoChanges() {
        SnowLedger x = new SnowLedger();
        x.addHill();
        x.renderBlock(0);
        x.nextHash(0);
        x.repairsNeeded(0);
        x.save();
        x.type('h');
        check.due("53 one change", 0, () -> x.undo());
        check.due("53 no hill", 0, () -> x.hillCount());
    }

    private static void typedTextIsKept() {
        SnowLedger x = new SnowLedger();
        x.addHill();
        x.save();
        Check.type(x, "hi");
        x.undo();
        check.due("53 typed text stays", 3, () -> x.type('l'));
        x.restore();
        check.due("55 typed text stays", 4, () -> x.type('l'));
        check.due("50 runs", 1, () -> x.runScript());
        check.due("50 second hill", 2, () -> x.hillCount());
    }

    private static void snapshot() {
        SnowLedger x = new SnowLedger();
        check.refused("55 none", IllegalStateException.class, () -> x.restore());
        check.due("54 root alone", 1, () -> x.save());
        x.addHill();
        x.write(0);
        x.write(0);
        check.due("55 root alone", 1, () -> x.restore());
        check.due("55 no hill", 0, () -> x.hillCount());
        check.due("55 kept", 1, () -> x.restore());
        x.addHill();
        x.write(0);
        check.due("54 replaces", 2, () -> x.save());
        x.melt(1);
        check.due("55 the later one", 2, () -> x.restore());
        check.due("55 exists", true, () -> x.exists(1));
    }

    private static void snapshotCoversAll() {
        SnowLedger x = Check.twoBranches();
        x.replaceFlake(4, 0, 11);
        String before = describe(x);
        check.due("54 five", 5, () -> x.save());
        x.repair(4);
        x.melt(1);
        x.addHill();
        x.write(3);
        x.collect(2, 8);
        x.replaceFlake(4, 1, 9);
        check.due("54 takes no part in changes", true, () -> !describe(x).equals(before));
        check.due("55 five", 5, () -> x.restore());
        check.due("55 all as before", before, () -> describe(x));
        check.due("55 the number is taken back", 5, () -> x.write(2));
        check.due("55 the collected flake", 5, () -> x.flakeAt(5, 0));
        check.due("55 again", 5, () -> x.restore());
        check.due("55 all as before, again", before, () -> describe(x));
    }

    private static void restoreForgetsChanges() {
        SnowLedger x = Check.twoBranches();
        x.save();
        check.due("54 forgets no change", 7, () -> x.undo());
        x.restore();
        check.refused("55 nothing to undo", IllegalStateException.class, () -> x.undo());
        x.addHill();
        check.due("53 after a restore", 0, () -> x.undo());
        x.addHill();
        x.undo();
        check.due("54 undo leaves the snapshot", 5, () -> x.restore());
        check.due("55 the flake", 1, () -> x.collected(2));
    }
}
