import java.util.LinkedHashMap;
import java.util.Map;
import java.util.function.Supplier;

/** The sentences of 'Changes' and of promises 53 to 55. */
final class ChangeSentences {
    private static final String CHANGE = "A change is a call of addHill, collect, write, follow, melt, "
            + "replaceFlake, repair or runScript that returns normally, even if the state is the same afterwards.";
    private static final String COVERED = """
            Undo and the snapshot cover everything except the script buffer, the error position, the index of the failed
            command, the output text and the snapshot itself; they also take back the number of the next block.""";

    private ChangeSentences() {
    }

    /** Two branches of which block 4 is invalid, with nothing to undo. */
    private static SnowLedger withoutChanges() {
        SnowLedger ledger = Ledgers.twoBranches();
        ledger.replaceFlake(4, 0, 12);
        ledger.save();
        ledger.restore();
        return ledger;
    }

    /** One call of each kind of change, all of which can be made one after another. */
    private static Map<String, LedgerCall> changes() {
        Map<String, LedgerCall> changes = new LinkedHashMap<>();
        changes.put("addHill", x -> x.addHill());
        changes.put("collect", x -> x.collect(1, 3));
        changes.put("write", x -> x.write(2));
        changes.put("follow", x -> x.follow(2, 4));
        changes.put("replaceFlake", x -> x.replaceFlake(1, 0, 11));
        changes.put("repair", x -> x.repair(4));
        changes.put("runScript", x -> Check.run(x, "write 2,5;swap 2 0 6"));
        changes.put("melt", x -> x.melt(3));
        return changes;
    }

    // Changes

    @Sentence(of = "Changes", text = CHANGE)
    static void eachKindOfChange(Check check) {
        changes().forEach((name, change) -> {
            SnowLedger x = withoutChanges();
            change.on(x);
            check.due(name + " is one change", 0, () -> x.undo());
            check.refused(name + " is no more than one", IllegalStateException.class, () -> x.undo());
        });
        countsAsOne(check, "the same block followed", x -> x.follow(0, 2));
        countsAsOne(check, "the same flake put", x -> x.replaceFlake(1, 0, 10));
        countsAsOne(check, "a script that follows the same block", x -> Check.run(x, "follow 0 2"));
        countsAsOne(check, "a script that comes back",
                x -> Check.run(x, "follow 0 0;swap 1 0 5;swap 1 0 10;follow 0 2"));
    }

    private static void countsAsOne(Check check, String what, LedgerCall change) {
        String before = Picture.covered(ChangeSentences::withoutChanges);
        check.due(what + " keeps the state", before, () -> Picture.covered(() -> changed(change)));
        SnowLedger x = changed(change);
        check.due(what + " is a change", 0, () -> x.undo());
        check.refused(what + " is one change", IllegalStateException.class, () -> x.undo());
    }

    private static SnowLedger changed(LedgerCall change) {
        SnowLedger ledger = withoutChanges();
        change.on(ledger);
        return ledger;
    }

    @Sentence(of = "Changes", text = CHANGE)
    static void whatIsNoChange(Check check) {
        SnowLedger x = withoutChanges();
        x.save();
        x.blockCount();
        x.exists(0);
        x.nextHash(0);
        x.repairsNeeded(4);
        x.meltSize(1);
        x.isConsistent();
        x.renderBlock(1);
        x.renderBranch(1);
        x.outputAt(0);
        x.type('x');
        check.refused("nothing to undo", IllegalStateException.class, () -> x.undo());
        check.refused("a script without the form", IllegalArgumentException.class, () -> x.runScript());
        check.refused("still nothing", IllegalStateException.class, () -> x.undo());
        Check.type(x, "hill;melt 9");
        check.refused("a failed script", IllegalStateException.class, () -> x.runScript());
        check.refused("nothing yet", IllegalStateException.class, () -> x.undo());
        check.refused("a refused call", IllegalArgumentException.class, () -> x.melt(0));
        check.refused("nothing at all", IllegalStateException.class, () -> x.undo());
        x.addHill();
        x.undo();
        check.refused("an undo is no change", IllegalStateException.class, () -> x.undo());
    }

    @Sentence(of = "Changes", text = "The latest 8 changes can be undone, the latest one first.")
    static void eightChanges(Check check) {
        for (int changes = 0; changes <= 20; changes++) {
            int count = changes;
            SnowLedger x = new SnowLedger();
            x.addHill();
            x.write(0);
            x.save();
            x.restore();
            for (int i = 1; i <= count; i++) {
                x.follow(0, i % 2);
            }
            int undone = Math.min(8, count);
            for (int i = 1; i <= undone; i++) {
                int left = undone - i;
                int followed = count == i ? 1 : (count - i) % 2;
                check.due("undo " + i + " of " + count, left, () -> x.undo());
                check.due("followed after undo " + i + " of " + count, followed, () -> x.followed(0));
            }
            check.refused("no more than " + undone + " of " + count, IllegalStateException.class, () -> x.undo());
        }
    }

    @Sentence(of = "Changes", text = "The latest 8 changes can be undone, the latest one first.")
    static void eachStateComesBack(Check check) {
        SnowLedger x = withoutChanges();
        String[] states = new String[8];
        int at = 0;
        for (LedgerCall change : changes().values()) {
            states[at] = shortState(x);
            at++;
            change.on(x);
        }
        for (int change = 7; change >= 0; change--) {
            int left = change;
            check.due("undo", left, () -> x.undo());
            check.due("the state before change " + left, states[left], () -> shortState(x));
        }
        check.refused("all undone", IllegalStateException.class, () -> x.undo());
    }

    /** Some of the state by few calls, as eight pictures in a row would take more than 512. */
    private static String shortState(SnowLedger x) {
        StringBuilder text = new StringBuilder();
        text.append(x.blockCount()).append(' ').append(x.writtenTotal()).append(' ').append(x.meltedTotal());
        text.append(' ').append(x.validShare()).append(' ').append(x.differentFlakes(2));
        int hills = x.hillCount();
        for (int hill = 0; hill < hills; hill++) {
            text.append(' ').append(x.followed(hill)).append('/').append(x.nextHash(hill));
        }
        return text.toString();
    }

    @Sentence(of = "Changes", text = COVERED)
    static void undoCoversAll(Check check) {
        changes().forEach((name, change) -> {
            String before = Picture.covered(ChangeSentences::withoutChanges);
            check.due(name + " undone", before, () -> Picture.covered(() -> {
                SnowLedger x = changed(change);
                x.undo();
                return x;
            }));
            check.due(name + " restored", before, () -> Picture.covered(() -> {
                SnowLedger x = changed(change);
                x.restore();
                return x;
            }));
        });
        String before = Picture.covered(ChangeSentences::withoutChanges);
        check.due("all of them undone", before, () -> Picture.covered(() -> {
            SnowLedger x = allChanged();
            for (int i = 0; i < 8; i++) {
                x.undo();
            }
            return x;
        }));
        check.due("all of them restored", before, () -> Picture.covered(() -> {
            SnowLedger x = allChanged();
            x.restore();
            return x;
        }));
    }

    private static SnowLedger allChanged() {
        SnowLedger ledger = withoutChanges();
        changes().values().forEach(change -> change.on(ledger));
        return ledger;
    }

    @Sentence(of = "Changes", text = COVERED)
    static void whatUndoAndTheSnapshotLeave(Check check) {
        for (boolean byUndo : new boolean[] {true, false}) {
            String what = byUndo ? "undo" : "restore";
            SnowLedger x = new SnowLedger();
            x.save();
            x.addHill();
            Check.type(x, "hill;x");
            Picture.answer(() -> x.runScript());
            Check.type(x, "hill;hill;melt 9");
            Picture.answer(() -> x.runScript());
            int length = x.renderBranch(0);
            Check.type(x, "hil");
            check.due(what, byUndo ? 0 : 1, () -> byUndo ? x.undo() : x.restore());
            check.due(what + " takes back the hill", 0, () -> x.hillCount());
            check.due(what + " leaves the error position", 5, () -> x.errorPosition());
            check.due(what + " leaves the failed command", 2, () -> x.failedCommand());
            check.due(what + " leaves the output text", "0", () -> Check.output(x, length));
            check.due(what + " leaves the script buffer", 4, () -> x.type('l'));
            check.due(what + " leaves what is typed", 1, () -> x.runScript());
            check.due(what + " leaves the snapshot", 1, () -> x.restore());
            check.due(what + " leaves the empty snapshot", 0, () -> x.hillCount());
        }
    }

    @Sentence(of = "Changes", text = COVERED)
    static void theNextNumberIsTakenBack(Check check) {
        SnowLedger x = Ledgers.chain(3);
        x.write(0);
        x.undo();
        check.due("by undo", 4, () -> x.write(0));
        x.save();
        x.write(0);
        x.melt(3);
        check.due("not by melting", 6, () -> x.write(0));
        x.restore();
        check.due("by the snapshot", 5, () -> x.write(0));
        Check.run(x, "write 0;write 0");
        x.undo();
        check.due("of a script", 6, () -> x.write(0));
    }

    @Sentence(of = "Changes", text = "A method that throws an exception changes nothing "
            + "unless its description says otherwise.")
    static void whatThrowsChangesNothing(Check check) {
        Refusals.of(check, Ledgers::wellUsed)
                .state("addHill", x -> x.addHill())
                .index("collect, hill", x -> x.collect(4, 1))
                .argument("collect, flake", x -> x.collect(2, 100))
                .index("write, hill", x -> x.write(-1))
                .operation("write, branch", x -> x.write(0))
                .index("follow, hill", x -> x.follow(4, 0))
                .element("follow, block", x -> x.follow(0, 5))
                .element("melt, block", x -> x.melt(5))
                .argument("melt, root", x -> x.melt(0))
                .element("replaceFlake, block", x -> x.replaceFlake(5, 0, 1))
                .index("replaceFlake, position", x -> x.replaceFlake(1, 3, 1))
                .argument("replaceFlake, flake", x -> x.replaceFlake(1, 0, 100))
                .element("repair, block", x -> x.repair(5))
                .argument("repair, root", x -> x.repair(0))
                .state("repair, valid", x -> x.repair(2))
                .element("renderBlock", x -> x.renderBlock(5))
                .element("renderBranch", x -> x.renderBranch(5))
                .index("outputAt", x -> x.outputAt(99))
                .argument("type", x -> x.type((char) 31))
                .element("tipAtRank", x -> x.tipAtRank(2))
                .argument("blockWith", x -> x.blockWith(100))
                .argument("blocksAtHeight", x -> x.blocksAtHeight(16))
                .element("commonFlakes", x -> x.commonFlakes(1, 5))
                .element("repairsNeeded", x -> x.repairsNeeded(5))
                .leaveAllAsItWas();
        Refusals.of(check, () -> Ledgers.chain(15)).state("write, 16 blocks", x -> x.write(0)).leaveAllAsItWas();
        Refusals.of(check, () -> Ledgers.withHills(4))
                .state("undo after restore", x -> x.save() + x.restore() + x.undo());
        Refusals.of(check, SnowLedger::new)
                .state("undo", x -> x.undo())
                .state("restore", x -> x.restore())
                .element("errorPosition", x -> x.errorPosition())
                .element("failedCommand", x -> x.failedCommand())
                .leaveAllAsItWas();
        Refusals.of(check, ChangeSentences::fiveFlakesAskedFor)
                .state("collect, four flakes", x -> x.collect(0, 5)).leaveAllAsItWas();
    }

    private static SnowLedger fiveFlakesAskedFor() {
        SnowLedger ledger = Ledgers.withHills(1);
        for (int flake = 1; flake <= 4; flake++) {
            ledger.collect(0, flake);
        }
        return ledger;
    }

    @Sentence(of = "Changes", text = "If several exceptions apply, the one that is listed first is thrown.")
    static void theFirstListedIsThrown(Check check) {
        Refusals.of(check, ChangeSentences::fiveFlakesAskedFor)
                .index("collect: hill before flake", x -> x.collect(1, 100))
                .index("collect: hill before flake, below", x -> x.collect(-1, -1))
                .argument("collect: flake before four flakes", x -> x.collect(0, 100))
                .argument("collect: flake before four flakes, below", x -> x.collect(0, -1))
                .index("follow: hill before block", x -> x.follow(1, 9))
                .index("follow: hill before block, below", x -> x.follow(-1, -1))
                .leaveAllAsItWas();
        Refusals.of(check, ChangeSentences::fullAndInvalid)
                .index("write: hill before 16 blocks", x -> x.write(1))
                .state("write: 16 blocks before an invalid branch", x -> x.write(0))
                .leaveAllAsItWas();
        Refusals.of(check, Ledgers::twoBranches)
                .element("replaceFlake: block before position and flake", x -> x.replaceFlake(5, -1, 100))
                .element("replaceFlake: block before flake", x -> x.replaceFlake(-1, 0, 100))
                .index("replaceFlake: position before flake", x -> x.replaceFlake(1, 3, 100))
                .index("replaceFlake: position before flake, below", x -> x.replaceFlake(1, -1, -1))
                .index("replaceFlake: position before flake at the root", x -> x.replaceFlake(0, 0, 100))
                .argument("repair: root before valid", x -> x.repair(0))
                .element("flakeAt: block before position", x -> x.flakeAt(5, -1))
                .element("flakeAt: block before position, below", x -> x.flakeAt(-1, 9))
                .argument("blockWith: flake before no block with it", x -> x.blockWith(100))
                .argument("blockWith: flake before no block with it, below", x -> x.blockWith(-1))
                .leaveAllAsItWas();
        Refusals.of(check, () -> {
            SnowLedger x = new SnowLedger();
            Check.type(x, "x".repeat(60));
            return x;
        }).argument("type: code before a full buffer", x -> x.type((char) 127))
                .argument("type: code before a full buffer, below", x -> x.type((char) 31))
                .leaveAllAsItWas();
    }

    private static SnowLedger fullAndInvalid() {
        SnowLedger ledger = Ledgers.chain(15);
        ledger.replaceFlake(15, 0, 8);
        return ledger;
    }

    // Promise 53

    @Sentence(of = "Promise 53", text = "Undoes the latest change that has not been undone.")
    static void latestChangeUndone(Check check) {
        SnowLedger x = Ledgers.withHills(1);
        x.collect(0, 1);
        x.collect(0, 2);
        x.undo();
        check.due("one flake", 1, () -> x.collected(0));
        x.collect(0, 3);
        x.collect(0, 4);
        x.undo();
        check.due("1 and 3", Due.hash(1, Due.root(1, 3), 0), () -> x.nextHash(0));
        x.undo();
        check.due("1 alone", Due.hash(1, 1, 0), () -> x.nextHash(0));
        x.undo();
        check.due("none", 0, () -> x.collected(0));
        x.undo();
        check.due("no hill", 0, () -> x.hillCount());
    }

    @Sentence(of = "Promise 53", text = "Undoes the latest change that has not been undone.")
    static void changesBeyondTheEighthAreForgotten(Check check) {
        SnowLedger x = Ledgers.withHills(1);
        for (int block = 1; block <= 12; block++) {
            x.write(0);
        }
        x.undo();
        x.undo();
        x.undo();
        x.write(0);
        x.write(0);
        for (int left = 6; left >= 0; left--) {
            int blocks = left;
            check.due("undo", blocks, () -> x.undo());
            check.due("blocks", blocks + 5, () -> x.blockCount());
        }
        check.refused("no more", IllegalStateException.class, () -> x.undo());
        check.due("the fifth again", 5, () -> x.write(0));
    }

    @Sentence(of = "Promise 53", text = "Returns the number of changes that can still be undone.")
    static void changesLeft(Check check) {
        for (int changes = 1; changes <= 12; changes++) {
            int count = changes;
            SnowLedger x = withoutChanges();
            for (int i = 0; i < count; i++) {
                x.follow(0, 0);
            }
            check.due("of " + count, Math.min(8, count) - 1, () -> x.undo());
            if (count > 1) {
                check.due("of " + count + ", again", Math.min(8, count) - 2, () -> x.undo());
                x.follow(0, 0);
                check.due("after one more", Math.min(8, count) - 2, () -> x.undo());
            }
        }
    }

    @Sentence(of = "Promise 53", text = "Throws `IllegalStateException` if there is nothing to undo")
    static void nothingToUndo(Check check) {
        Refusals.of(check, SnowLedger::new)
                .state("new", x -> x.undo())
                .state("new, again", x -> x.undo())
                .leaveAllAsItWas();
        Refusals.of(check, ChangeSentences::withoutChanges).state("restored", x -> x.undo()).leaveAllAsItWas();
        Refusals.of(check, () -> {
            SnowLedger x = Ledgers.withHills(1);
            x.undo();
            return x;
        }).state("all undone", x -> x.undo()).leaveAllAsItWas();
        Refusals.of(check, () -> {
            SnowLedger x = Ledgers.chain(7);
            for (int i = 0; i < 8; i++) {
                x.undo();
            }
            return x;
        }).state("eight undone", x -> x.undo()).leaveAllAsItWas();
        check.due("the only one", 0, () -> Ledgers.withHills(1).undo());
    }

    // Promise 54

    @Sentence(of = "Promise 54", text = "Takes a snapshot, which replaces an earlier one.")
    static void latestSnapshot(Check check) {
        SnowLedger x = new SnowLedger();
        x.save();
        x.addHill();
        x.save();
        x.addHill();
        x.restore();
        check.due("the second", 1, () -> x.hillCount());
        x.write(0);
        x.save();
        x.melt(1);
        x.restore();
        check.due("the third", 2, () -> x.blockCount());
    }

    @Sentence(of = "Promise 54", text = "Returns the number of blocks in the tree.")
    static void savedBlocks(Check check) {
        check.due("the root alone", 1, () -> new SnowLedger().save());
        for (int blocks = 1; blocks <= 15; blocks++) {
            int count = blocks;
            check.due(count + " and the root", count + 1, () -> Ledgers.chain(count).save());
        }
        check.due("after a melt", 3, () -> Ledgers.meltedBranch().save());
    }

    // Promise 55

    @Sentence(of = "Promise 55", text = "Restores the snapshot, which is kept.")
    static void snapshotIsKept(Check check) {
        String before = Picture.covered(Ledgers::twoBranches);
        for (int times = 1; times <= 3; times++) {
            int count = times;
            check.due("restored, time " + count, before, () -> Picture.covered(() -> {
                SnowLedger x = Ledgers.twoBranches();
                x.save();
                for (int i = 0; i < count; i++) {
                    x.addHill();
                    x.melt(3);
                    Ledgers.write(x, 0, 1, 2, 3);
                    x.replaceFlake(1, 0, 99);
                    x.repair(1);
                    x.restore();
                }
                return x;
            }));
        }
        check.due("changes after the save are not in it", before, () -> Picture.covered(() -> {
            SnowLedger x = Ledgers.twoBranches();
            x.save();
            x.restore();
            x.replaceFlake(1, 0, 99);
            x.undo();
            x.follow(0, 0);
            x.restore();
            return x;
        }));
    }

    @Sentence(of = "Promise 55", text = "Afterwards there is nothing to undo.")
    static void nothingToUndoAfterRestoring(Check check) {
        SnowLedger x = Ledgers.chain(7);
        x.save();
        x.restore();
        check.refused("without a change", IllegalStateException.class, () -> x.undo());
        x.addHill();
        x.addHill();
        x.restore();
        check.refused("after changes", IllegalStateException.class, () -> x.undo());
        for (int left = 7; left >= 0; left--) {
            x.follow(0, left);
        }
        for (int left = 7; left >= 0; left--) {
            int due = left;
            check.due("changes since then", due, () -> x.undo());
        }
        check.refused("and no more", IllegalStateException.class, () -> x.undo());
        check.due("back at the snapshot", 7, () -> x.followed(0));
    }

    @Sentence(of = "Promise 55", text = "Returns the number of blocks in the tree.")
    static void restoredBlocks(Check check) {
        for (int blocks = 0; blocks <= 15; blocks++) {
            int count = blocks;
            SnowLedger x = Ledgers.chain(count);
            x.save();
            if (count > 0) {
                x.melt(1);
            }
            x.write(0);
            x.write(0);
            check.due(count + " and the root", count + 1, () -> x.restore());
            check.due("in the tree", count + 1, () -> x.blockCount());
        }
    }

    @Sentence(of = "Promise 55", text = "Throws `IllegalStateException` if there is no snapshot")
    static void noSnapshot(Check check) {
        Refusals.of(check, SnowLedger::new).state("new", x -> x.restore()).leaveAllAsItWas();
        Refusals.of(check, Ledgers::twoBranches)
                .state("never saved", x -> x.restore())
                .state("never saved, again", x -> x.restore())
                .leaveAllAsItWas();
        check.due("a snapshot of the root alone", 1, () -> {
            SnowLedger x = new SnowLedger();
            x.save();
            return x.restore();
        });
    }
}
