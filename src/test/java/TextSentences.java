import java.util.NoSuchElementException;
import java.util.function.Supplier;

/** The sentences of promises 46 to 48: the output text. */
final class TextSentences {
    private static final String DESCRIBES = """
            Replaces the output text by a description of a block: the number, "#" and the stored hash, and, unless it is
            the root, "&lt;" and the number of the parent, "h" and the writer, and for each flake "," and the flake;
            followed by "!" if it is not valid; as in "3#1204&lt;1h0,12,7!".""";
    private static final int MIN = Integer.MIN_VALUE;
    private static final int MAX = Integer.MAX_VALUE;

    private TextSentences() {
    }

    private static String rendered(SnowLedger x, int block) {
        return Check.output(x, x.renderBlock(block));
    }

    // Promise 46

    @Sentence(of = "Promise 46", text = DESCRIBES)
    static void describedBlocks(Check check) {
        check.due("the root alone", "0#1", () -> rendered(new SnowLedger(), 0));
        SnowLedger x = Ledgers.twoBranches();
        check.due("the root", "0#1", () -> rendered(x, 0));
        check.due("three flakes", "1#3196<0h0,10,20,30", () -> rendered(x, 1));
        check.due("one flake", "2#6632<1h0,40", () -> rendered(x, 2));
        check.due("no flakes", "3#76<0h1", () -> rendered(x, 3));
        check.due("two flakes", "4#4652<3h1,10,40", () -> rendered(x, 4));
        check.due("four flakes", "1#" + Due.hash(1, Due.root(0, 99, 9, 10), 0) + "<0h0,0,99,9,10",
                () -> rendered(Ledgers.withBlock(0, 99, 9, 10), 1));
        SnowLedger y = Ledgers.withHills(4);
        Ledgers.write(y, 0, 36);
        y.follow(1, 1);
        Ledgers.write(y, 1, 14, 19);
        check.due("a hash of 0", "2#0<1h1,14,19", () -> rendered(y, 2));
        y.follow(3, 2);
        check.due("the last hill", "3#" + Due.hash(0, 0, 3) + "<2h3", () -> rendered(y, y.write(3)));
    }

    @Sentence(of = "Promise 46", text = DESCRIBES)
    static void describedInvalidBlocks(Check check) {
        SnowLedger x = Ledgers.twoBranches();
        x.replaceFlake(1, 2, 0);
        check.due("tampered", "1#3196<0h0,10,20,0!", () -> rendered(x, 1));
        check.due("valid on an invalid one", "2#6632<1h0,40", () -> rendered(x, 2));
        x.repair(1);
        check.due("repaired", "1#" + Due.hash(1, Due.root(10, 20, 0), 0) + "<0h0,10,20,0", () -> rendered(x, 1));
        check.due("invalid by its parent's repair", "2#6632<1h0,40!", () -> rendered(x, 2));
        SnowLedger y = Ledgers.withBlock(10);
        y.write(0);
        y.replaceFlake(1, 0, 11);
        y.repair(1);
        check.due("invalid without flakes", "2#" + Due.hash(Due.hash(1, 10, 0), 0, 0) + "<1h0!", () -> rendered(y, 2));
        check.due("the root is valid", "0#1", () -> rendered(y, 0));
    }

    @Sentence(of = "Promise 46", text = DESCRIBES)
    static void descriptionsReplaceTheText(Check check) {
        SnowLedger x = Ledgers.twoBranches();
        x.renderBlock(1);
        check.due("shorter", "0#1", () -> rendered(x, 0));
        check.refused("nothing behind it", IndexOutOfBoundsException.class, () -> x.outputAt(3));
        x.renderBranch(2);
        check.due("after a branch", "3#76<0h1", () -> rendered(x, 3));
        check.refused("nothing behind that", IndexOutOfBoundsException.class, () -> x.outputAt(8));
        check.due("numbers of two digits", "15#" + Ledgers.chain(15).hashOf(15) + "<14h0,7",
                () -> rendered(Ledgers.chain(15), 15));
        SnowLedger y = Ledgers.withHills(1);
        for (int number = 1; number <= 99; number++) {
            y.melt(y.write(0));
        }
        y.write(0);
        y.write(0);
        check.due("numbers of three digits", "101#" + y.hashOf(101) + "<100h0", () -> rendered(y, 101));
    }

    @Sentence(of = "Promise 46", text = "Returns the length of the output text.")
    static void lengthOfDescription(Check check) {
        SnowLedger x = Ledgers.twoBranches();
        check.due("0#1", 3, () -> x.renderBlock(0));
        check.due("1#3196<0h0,10,20,30", 19, () -> x.renderBlock(1));
        check.due("3#76<0h1", 8, () -> x.renderBlock(3));
        x.replaceFlake(1, 2, 0);
        check.due("1#3196<0h0,10,20,0!", 19, () -> x.renderBlock(1));
        check.due("the last character", '!', () -> x.outputAt(18));
        check.refused("none behind it", IndexOutOfBoundsException.class, () -> x.outputAt(19));
    }

    @Sentence(of = "Promise 46", text = "Throws `NoSuchElementException` if there is no such block in the tree")
    static void descriptionOfNone(Check check) {
        Missing.block(check, SnowLedger::renderBlock);
        textStays(check, x -> x.renderBlock(9));
    }

    private static void textStays(Check check, LedgerCall refused) {
        SnowLedger x = Ledgers.twoBranches();
        int length = x.renderBlock(1);
        check.refused("no block", NoSuchElementException.class, () -> refused.on(x));
        check.due("the text stays", "1#3196<0h0,10,20,30", () -> Check.output(x, length));
        check.refused("and its length", IndexOutOfBoundsException.class, () -> x.outputAt(length));
    }

    // Promise 47

    @Sentence(of = "Promise 47", text = """
            Replaces the output text by the numbers of the blocks of a branch, from the block to the root, with "-"
            between two, as in "7-4-1-0".""")
    static void renderedBranches(Check check) {
        check.due("the root alone", "0", () -> branch(new SnowLedger(), 0));
        SnowLedger x = Ledgers.twoBranches();
        check.due("the root", "0", () -> branch(x, 0));
        check.due("two", "1-0", () -> branch(x, 1));
        check.due("three", "2-1-0", () -> branch(x, 2));
        check.due("the other branch", "4-3-0", () -> branch(x, 4));
        x.renderBlock(1);
        check.due("after a block", "3-0", () -> branch(x, 3));
        check.refused("nothing behind it", IndexOutOfBoundsException.class, () -> x.outputAt(3));
        check.due("sixteen", "15-14-13-12-11-10-9-8-7-6-5-4-3-2-1-0", () -> branch(Ledgers.chain(15), 15));
        SnowLedger y = Ledgers.star(2);
        y.melt(1);
        y.write(0);
        check.due("a block in a melted one's room", "3-2-0", () -> branch(y, 3));
        SnowLedger z = Ledgers.withHills(1);
        for (int number = 1; number <= 98; number++) {
            z.melt(z.write(0));
        }
        z.write(0);
        z.write(0);
        check.due("numbers of three digits", "100-99-0", () -> branch(z, 100));
    }

    private static String branch(SnowLedger x, int block) {
        return Check.output(x, x.renderBranch(block));
    }

    @Sentence(of = "Promise 47", text = "Returns the length of the output text.")
    static void lengthOfBranch(Check check) {
        SnowLedger x = Ledgers.chain(15);
        for (int block = 0; block <= 15; block++) {
            int number = block;
            int due = number < 10 ? 2 * number + 1 : 19 + 3 * (number - 9);
            check.due("branch of " + number, due, () -> x.renderBranch(number));
            check.due("the last character", '0', () -> x.outputAt(due - 1));
            check.refused("none behind it", IndexOutOfBoundsException.class, () -> x.outputAt(due));
        }
    }

    @Sentence(of = "Promise 47", text = "Throws `NoSuchElementException` if there is no such block in the tree")
    static void branchOfNone(Check check) {
        Missing.block(check, SnowLedger::renderBranch);
        textStays(check, x -> x.renderBranch(9));
    }

    // Promise 48

    @Sentence(of = "Promise 48", text = {"Returns a character of the output text, which is empty initially.",
        "Returns the character."})
    static void charactersOfTheText(Check check) {
        check.refused("empty", IndexOutOfBoundsException.class, () -> new SnowLedger().outputAt(0));
        SnowLedger x = Ledgers.twoBranches();
        check.refused("still empty", IndexOutOfBoundsException.class, () -> x.outputAt(0));
        String due = "1#3196<0h0,10,20,30";
        x.renderBlock(1);
        for (int index = 0; index < due.length(); index++) {
            int at = index;
            check.due("character " + at, due.charAt(at), () -> x.outputAt(at));
        }
        x.replaceFlake(1, 0, 99);
        x.melt(1);
        check.due("as it was rendered", due, () -> Check.output(x, due.length()));
        x.undo();
        x.save();
        x.restore();
        check.due("not by undo or the snapshot", due, () -> Check.output(x, due.length()));
    }

    @Sentence(of = "Promise 48", text = "Throws `IndexOutOfBoundsException` if there is no such index")
    static void noCharacter(Check check) {
        noIndex(check, "empty", SnowLedger::new, 0);
        noIndex(check, "one", () -> {
            SnowLedger x = new SnowLedger();
            x.renderBranch(0);
            return x;
        }, 1);
        noIndex(check, "nineteen", () -> {
            SnowLedger x = Ledgers.twoBranches();
            x.renderBlock(1);
            return x;
        }, 19);
        noIndex(check, "shorter than before", () -> {
            SnowLedger x = Ledgers.twoBranches();
            x.renderBlock(1);
            x.renderBlock(0);
            return x;
        }, 3);
    }

    private static void noIndex(Check check, String what, Supplier<SnowLedger> made, int length) {
        if (length > 0) {
            check.due(what + ", the first", true, () -> made.get().outputAt(0) > 0);
            check.due(what + ", the last", true, () -> made.get().outputAt(length - 1) > 0);
        }
        Refusals.of(check, made)
                .index(what + ", -1", x -> x.outputAt(-1))
                .index(what + ", the length", x -> x.outputAt(length))
                .index(what + ", the length and one", x -> x.outputAt(length + 1))
                .index(what + ", the least number", x -> x.outputAt(MIN))
                .index(what + ", the greatest number", x -> x.outputAt(MAX))
                .leaveAllAsItWas();
    }
}
