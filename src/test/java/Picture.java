import java.util.function.Supplier;

/** All that the calls tell of a ledger, as a text. It takes ledgers made alike, as reading a part spoils another. */
final class Picture {
    private Picture() {
    }

    static String of(Supplier<SnowLedger> made) {
        return besideScripts(made) + "\nerrors " + errors(made.get()) + "\nscript " + script(made.get())
                + "\ntyped " + answer(() -> made.get().type('h'));
    }

    /** All but the typed script, the error position and the failed command. */
    static String besideScripts(Supplier<SnowLedger> made) {
        return covered(made) + "\noutput " + output(made.get()) + "\nundo " + changes(made.get())
                + "\nsnapshot " + snapshot(made.get());
    }

    /** What undo and the snapshot cover. */
    static String covered(Supplier<SnowLedger> made) {
        return state(made.get()) + "\nnext " + nextNumber(made.get());
    }

    static String state(SnowLedger ledger) {
        StringBuilder text = new StringBuilder();
        for (int block = 0; block < 24; block++) {
            if (ledger.exists(block)) {
                text.append(block(ledger, block));
            }
        }
        int hills = ledger.hillCount();
        for (int hill = 0; hill < hills; hill++) {
            text.append(" hill ").append(ledger.followed(hill)).append(':').append(ledger.collected(hill));
            text.append(':').append(ledger.nextHash(hill));
        }
        text.append(" totals ").append(ledger.writtenTotal()).append(' ').append(ledger.meltedTotal());
        return text.toString();
    }

    private static String block(SnowLedger ledger, int block) {
        StringBuilder text = new StringBuilder(" block ").append(block).append('#').append(ledger.hashOf(block));
        if (block != 0) {
            text.append('<').append(ledger.parentOf(block)).append('h').append(ledger.writerOf(block));
            text.append('n').append(ledger.nonceOf(block));
        }
        int flakes = ledger.flakeCount(block);
        for (int position = 0; position < flakes; position++) {
            text.append(',').append(ledger.flakeAt(block, position));
        }
        return text.toString();
    }

    private static String nextNumber(SnowLedger ledger) {
        if (ledger.hillCount() == 0) {
            ledger.addHill();
        }
        if (ledger.blockCount() == 16) {
            ledger.melt(ledger.tipAtRank(0));
        }
        ledger.follow(0, 0);
        return answer(() -> ledger.write(0));
    }

    private static String output(SnowLedger ledger) {
        StringBuilder text = new StringBuilder();
        try {
            for (int index = 0; index < 100; index++) {
                text.append(ledger.outputAt(index));
            }
        } catch (IndexOutOfBoundsException e) {
            text.append('.');
        }
        return text.toString();
    }

    private static String errors(SnowLedger ledger) {
        return answer(() -> ledger.errorPosition()) + " " + answer(() -> ledger.failedCommand());
    }

    /** The changes that can be undone, and a part of the state before each. */
    private static String changes(SnowLedger ledger) {
        StringBuilder text = new StringBuilder();
        for (int i = 0; i < 9; i++) {
            text.append(answer(() -> ledger.undo())).append(':').append(ledger.blockCount());
            text.append(':').append(ledger.writtenTotal()).append(':').append(ledger.tipAtRank(0));
            text.append(':').append(ledger.validShare());
            int hills = ledger.hillCount();
            for (int hill = 0; hill < hills; hill++) {
                text.append(':').append(ledger.followed(hill)).append('/').append(ledger.nextHash(hill));
            }
            text.append(' ');
        }
        return text.toString();
    }

    private static String snapshot(SnowLedger ledger) {
        return answer(() -> ledger.restore()) + state(ledger);
    }

    /** What the typed script does, or where it lacks the form. */
    private static String script(SnowLedger ledger) {
        return answer(() -> ledger.runScript()) + " " + errors(ledger) + state(ledger);
    }

    static String answer(Check.Call call) {
        try {
            return String.valueOf(call.answer());
        } catch (RuntimeException e) {
            return e.getClass().getSimpleName();
        }
    }
}
