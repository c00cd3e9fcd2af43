import java.util.ArrayList;
import java.util.List;
import java.util.NoSuchElementException;
import java.util.function.Supplier;

/** Calls that are refused, each by an exception of one class and no other, and that leave the ledger as it was. */
final class Refusals {
    private final Check check;
    private final Supplier<SnowLedger> made;
    private final List<LedgerCall> calls = new ArrayList<>();

    private Refusals(Check check, Supplier<SnowLedger> made) {
        this.check = check;
        this.made = made;
    }

    static Refusals of(Check check, Supplier<SnowLedger> made) {
        return new Refusals(check, made);
    }

    Refusals index(String what, LedgerCall call) {
        return refused(what, IndexOutOfBoundsException.class, call);
    }

    Refusals element(String what, LedgerCall call) {
        return refused(what, NoSuchElementException.class, call);
    }

    Refusals argument(String what, LedgerCall call) {
        return refused(what, IllegalArgumentException.class, call);
    }

    Refusals state(String what, LedgerCall call) {
        return refused(what, IllegalStateException.class, call);
    }

    Refusals operation(String what, LedgerCall call) {
        return refused(what, UnsupportedOperationException.class, call);
    }

    private Refusals refused(String what, Class<? extends RuntimeException> due, LedgerCall call) {
        calls.add(call);
        SnowLedger ledger = made.get();
        check.refused(what, due, () -> call.on(ledger));
        return this;
    }

    /** A ledger that refused all of the calls, one after another, is as one that was asked for none of them. */
    void leaveAllAsItWas() {
        String before = Picture.of(made);
        check.due("all after " + calls.size() + " refused calls", before, () -> Picture.of(this::afterCalls));
    }

    private SnowLedger afterCalls() {
        SnowLedger ledger = made.get();
        for (LedgerCall call : calls) {
            Picture.answer(() -> call.on(ledger));
        }
        return ledger;
    }
}
