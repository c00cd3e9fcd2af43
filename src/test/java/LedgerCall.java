/** A call, or some, on the ledger that is given. */
interface LedgerCall {
    Object on(SnowLedger ledger);
}
