import java.util.NoSuchElementException;

/** Promises 46 to 52: the output text and scripts. */
public final class TextsTest {
    private static final Check check = new Check();

    public static void main(String[] args) {
        blocksRendered();
        branchesRendered();
        output();
        typing();
        commands();
        writeCommands();
        longScripts();
        errorPositions();
        errorPositionIsKept();
        failedCommands();
        failedScriptsTakeNoEffect();
        scriptIsOneChange();
        check.end();
    }

    private static void blocksRendered() {
        SnowLedger x = Check.twoBranches();
        check.due("46 root", "0#1", () -> Check.output(x, x.renderBlock(0)));
        check.due("46 flakes", "1#3196<0h0,10,20,30", () -> Check.output(x, x.renderBlock(1)));
        check.due("46 no flakes", "3#76<0h1", () -> Check.output(x, x.renderBlock(3)));
        x.replaceFlake(4, 1, 7);
        check.due("46 invalid", "4#4652<3h1,10,7!", () -> Check.output(x, x.renderBlock(4)));
        check.due("46 length", 16, () -> x.renderBlock(4));
        check.refused("46 no block", NoSuchElementException.class, () -> x.renderBlock(5));
        check.refused("46 block -1", NoSuchElementException.class, () -> x.renderBlock(-1));
        check.due("46 refused, output stays", "4#4652<3h1,10,7!", () -> Check.output(x, 16));
        check.refused("46 ends there", IndexOutOfBoundsException.class, () -> x.outputAt(16));
    }

    private static void branchesRendered() {
        SnowLedger x = Check.twoBranches();
        check.due("47 root", "0", () -> Check.output(x, x.renderBranch(0)));
        check.due("47 branch", "4-3-0", () -> Check.output(x, x.renderBranch(4)));
        check.due("47 length", 5, () -> x.renderBranch(4));
        check.refused("47 no block", NoSuchElementException.class, () -> x.renderBranch(5));
        check.due("47 refused, output stays", "4-3-0", () -> Check.output(x, 5));
        SnowLedger y = Check.fullChain();
        check.due("47 full", "15-14-13-12-11-10-9-8-7-6-5-4-3-2-1-0", () -> Check.output(y, y.renderBranch(15)));
    }

    private static void output() {
        SnowLedger x = Check.twoBranches();
        check.refused("48 empty", IndexOutOfBoundsException.class, () -> x.outputAt(0));
        x.renderBranch(2);
        check.due("48 first", '2', () -> x.outputAt(0));
        check.due("48 last", '0', () -> x.outputAt(4));
        check.refused("48 behind", IndexOutOfBoundsException.class, () -> x.outputAt(5));
        check.refused("48 before", IndexOutOfBoundsException.class, () -> x.outputAt(-1));
        x.renderBranch(0);
        check.refused("48 shorter now", IndexOutOfBoundsException.class, () -> x.outputAt(1));
        x.renderBranch(2);
        x.save();
        x.undo();
        x.restore();
        check.due("48 kept by undo and restore", '1', () -> x.outputAt(2));
    }

    private static void typing() {
        SnowLedger x = new SnowLedger();
        check.refused("49 code 31", IllegalArgumentException.class, () -> x.type((char) 31));
        check.refused("49 code 127", IllegalArgumentException.class, () -> x.type((char) 127));
        check.refused("49 code 0", IllegalArgumentException.class, () -> x.type((char) 0));
        check.refused("49 code 65535", IllegalArgumentException.class, () -> x.type((char) 65535));
        check.due("49 code 32", 1, () -> x.type((char) 32));
        check.due("49 code 126", 2, () -> x.type((char) 126));
        Check.type(x, "01234567890123456789012345678901234567890123456789012345");
        check.due("49 the 59th", 59, () -> x.type('a'));
        check.due("49 the 60th", 60, () -> x.type('a'));
        check.refused("49 the 61st", IllegalStateException.class, () -> x.type('a'));
        check.refused("49 the 61st, no character", IllegalArgumentException.class, () -> x.type((char) 127));
        check.refused("50 no form", IllegalArgumentException.class, () -> x.runScript());
        check.due("49 empty again", 1, () -> x.type('h'));
        check.refused("49 typing is no change", IllegalStateException.class, () -> x.undo());
    }

    private static void commands() {
        SnowLedger x = new SnowLedger();
        check.due("50 hill", 1, () -> Check.run(x, "hill"));
        check.due("50 two hills", 2, () -> Check.run(x, "hill;hill"));
        check.due("50 hillCount", 3, () -> x.hillCount());
        check.due("50 write", 3, () -> Check.run(x, "write 0,10,20,30;write 0,40;write 1"));
        check.due("50 flakes in order", "1#3196<0h0,10,20,30", () -> Check.output(x, x.renderBlock(1)));
        check.due("50 on it", "2-1-0", () -> Check.output(x, x.renderBranch(2)));
        check.due("50 follow", 1, () -> Check.run(x, "follow 2 1"));
        check.due("50 followed", 1, () -> x.followed(2));
        check.due("50 swap", 1, () -> Check.run(x, "swap 1 2 99"));
        check.due("50 swapped", 99, () -> x.flakeAt(1, 2));
        check.due("50 swapped back", 2, () -> Check.run(x, "swap 1 2 30;swap 1 1 99"));
        check.due("50 mend", 1, () -> Check.run(x, "mend 1"));
        check.due("50 mended", 5172, () -> x.hashOf(1));
        check.due("50 melt", 1, () -> Check.run(x, "melt 01"));
        check.due("50 melted", 2, () -> x.blockCount());
        check.due("50 two digits", 2, () -> Check.run(x, "write 1,09;swap 04 0 08"));
        check.due("50 leading zeros", 8, () -> x.flakeAt(4, 0));
        check.due("50 empty afterwards", 1, () -> x.type('x'));
    }

    private static void writeCommands() {
        SnowLedger x = new SnowLedger();
        x.addHill();
        x.collect(0, 1);
        x.collect(0, 2);
        check.due("50 onto collected flakes", 1, () -> Check.run(x, "write 0,3,4"));
        check.due("50 all four", 110, () -> x.rootOfFlakes(1));
        check.refused("50 five flakes", IllegalStateException.class, () -> Check.run(x, "write 0,1,2,3,4,5"));
        check.due("52 write is one command", 0, () -> x.failedCommand());
        check.due("50 none collected", 0, () -> x.collected(0));
        x.collect(0, 9);
        check.refused("50 one and four", IllegalStateException.class, () -> Check.run(x, "write 0,1,2,3,4"));
        check.due("50 the one is left", 1, () -> x.collected(0));
    }

    /** 12 commands and 26 flakes are the most that 60 characters can ask for. */
    private static void longScripts() {
        SnowLedger x = new SnowLedger();
        check.refused("50 twelve hills", IllegalStateException.class,
                () -> Check.run(x, "hill;hill;hill;hill;hill;hill;hill;hill;hill;hill;hill;hill"));
        check.due("52 the fifth", 4, () -> x.failedCommand());
        check.due("50 no hill", 0, () -> x.hillCount());
        check.refused("50 many flakes", IllegalStateException.class,
                () -> Check.run(x, "hill;write 0,1,2,3,4,5,6,7,8,9,0,1,2,3,4,5,6,7,8,9,0,1,2,3"));
        check.due("52 the second", 1, () -> x.failedCommand());
        check.due("50 nine commands", 9,
                () -> Check.run(x, "hill;hill;write 0;melt 1;write 1;melt 2;hill;hill;write 3"));
        check.due("50 the third block", true, () -> x.exists(3) && x.blockCount() == 2);
    }

    private static void errorPositions() {
        errorAt(0, "");
        errorAt(0, "x");
        errorAt(0, ";");
        errorAt(0, " hill");
        errorAt(0, "Hill");
        errorAt(1, "h");
        errorAt(1, "hell");
        errorAt(3, "hil");
        errorAt(4, "hills");
        errorAt(4, "hill ;hill");
        errorAt(5, "hill;");
        errorAt(5, "hill;;hill");
        errorAt(5, "hill; hill");
        errorAt(5, "write0");
        errorAt(6, "write ");
        errorAt(6, "write x");
        errorAt(6, "write  0");
        errorAt(7, "write 01");
        errorAt(7, "write 0 1");
        errorAt(8, "write 0,");
        errorAt(8, "write 0,,1");
        errorAt(8, "write 0,;");
        errorAt(10, "write 0,123");
        errorAt(9, "write 0,1 ");
        errorAt(11, "write 0,12,");
        errorAt(1, "m");
        errorAt(1, "mlt 1");
        errorAt(2, "me");
        errorAt(2, "met 1");
        errorAt(3, "mel");
        errorAt(3, "meld 1");
        errorAt(3, "ment 1");
        errorAt(4, "melt");
        errorAt(4, "mend1");
        errorAt(5, "mend ");
        errorAt(5, "melt ;");
        errorAt(7, "melt 123");
        errorAt(6, "melt 1,2");
        errorAt(6, "follow");
        errorAt(7, "follow ");
        errorAt(8, "follow 0");
        errorAt(8, "follow 00 1");
        errorAt(9, "follow 0 ");
        errorAt(9, "follow 0 x");
        errorAt(11, "follow 0 012");
        errorAt(1, "sawp");
        errorAt(5, "swap ");
        errorAt(6, "swap 1");
        errorAt(6, "swap 1;");
        errorAt(7, "swap 12");
        errorAt(7, "swap 123");
        errorAt(8, "swap 12 ");
        errorAt(9, "swap 12 0");
        errorAt(9, "swap 12 00 1");
        errorAt(10, "swap 12 0 ");
        errorAt(11, "swap 1 0 12x");
        errorAt(60, "hill;hill;hill;hill;hill;hill;hill;hill;hill;hill;hill;hill;");
        errorAt(59, "hill;hill;hill;hill;hill;hill;hill;hill;hill;hill;hill;hillx");
    }

    private static void errorAt(int position, String script) {
        SnowLedger x = new SnowLedger();
        x.addHill();
        check.refused("50 form of '" + script + "'", IllegalArgumentException.class, () -> Check.run(x, script));
        check.due("51 error position of '" + script + "'", position, () -> x.errorPosition());
        check.due("50 empty after '" + script + "'", 1, () -> x.type('h'));
        check.due("50 nothing done by '" + script + "'", 1, () -> x.hillCount());
    }

    private static void errorPositionIsKept() {
        SnowLedger x = new SnowLedger();
        check.refused("51 no script", NoSuchElementException.class, () -> x.errorPosition());
        Check.run(x, "hill");
        check.refused("51 a script of the form", NoSuchElementException.class, () -> x.errorPosition());
        check.refused("51 a failed one", IllegalStateException.class, () -> Check.run(x, "melt 5"));
        check.refused("51 after a failed one", NoSuchElementException.class, () -> x.errorPosition());
        x.save();
        check.refused("51 wrong", IllegalArgumentException.class, () -> Check.run(x, "melt"));
        check.due("51 position", 4, () -> x.errorPosition());
        Check.run(x, "hill");
        check.due("51 kept by a good script", 4, () -> x.errorPosition());
        x.undo();
        x.restore();
        check.due("51 kept by undo and restore", 4, () -> x.errorPosition());
        check.refused("51 wrong again", IllegalArgumentException.class, () -> x.runScript());
        check.due("51 the latest", 0, () -> x.errorPosition());
    }

    private static void failedCommands() {
        SnowLedger x = new SnowLedger();
        check.refused("52 no script", NoSuchElementException.class, () -> x.failedCommand());
        check.refused("52 form", IllegalArgumentException.class, () -> Check.run(x, "hil"));
        check.refused("52 a script without the form", NoSuchElementException.class, () -> x.failedCommand());
        Check.run(x, "hill;write 0,1");
        check.refused("52 a good script", NoSuchElementException.class, () -> x.failedCommand());
        fails(x, 1, "hill;write 2");
        fails(x, 0, "write 9");
        fails(x, 2, "hill;hill;melt 0");
        fails(x, 1, "hill;melt 2");
        fails(x, 0, "follow 1 1");
        fails(x, 1, "hill;follow 1 2");
        fails(x, 0, "swap 2 0 1");
        fails(x, 0, "swap 0 0 0");
        fails(x, 0, "follow 1 0");
        fails(x, 0, "melt 00");
        fails(x, 0, "swap 1 1 1");
        fails(x, 0, "mend 1");
        fails(x, 0, "mend 0");
        fails(x, 1, "swap 1 0 2;write 0");
        x.save();
        fails(x, 3, "hill;hill;hill;hill;melt 9");
        Check.run(x, "hill");
        x.undo();
        x.restore();
        check.due("52 kept", 3, () -> x.failedCommand());
        check.refused("52 form", IllegalArgumentException.class, () -> Check.run(x, "hil"));
        check.due("52 kept by a script without the form", 3, () -> x.failedCommand());
    }

    private static void fails(SnowLedger ledger, int command, String script) {
        check.refused("50 '" + script + "'", IllegalStateException.class, () -> Check.run(ledger, script));
        check.due("52 '" + script + "'", command, () -> ledger.failedCommand());
        check.due("50 empty after '" + script + "'", 1, () -> ledger.type('h'));
        check.refused("50 empties", IllegalArgumentException.class, () -> ledger.runScript());
    }

    private static void failedScriptsTakeNoEffect() {
        SnowLedger x = Check.twoBranches();
        check.refused("50 melts, then fails", IllegalStateException.class,
                () -> Check.run(x, "write 1,3;follow 2 5;swap 1 0 1;mend 1;melt 3;melt 3"));
        check.due("52 the last", 5, () -> x.failedCommand());
        check.due("50 blocks", 5, () -> x.blockCount());
        check.due("50 flake", 10, () -> x.flakeAt(1, 0));
        check.due("50 hash", 3196, () -> x.hashOf(1));
        check.due("50 followed by 1", 4, () -> x.followed(1));
        check.due("50 followed by 2", 0, () -> x.followed(2));
        check.due("50 writtenTotal", 4, () -> x.writtenTotal());
        check.due("50 meltedTotal", 0, () -> x.meltedTotal());
        check.due("50 the next number", 5, () -> x.write(1));
        check.refused("50 collects, then fails", IllegalStateException.class, () -> Check.run(x, "write 2,1,2,3,4"));
        check.due("50 collected", 1, () -> x.collected(2));
    }

    private static void scriptIsOneChange() {
        SnowLedger x = new SnowLedger();
        Check.run(x, "hill;write 0,1,2;write 0;swap 1 0 3");
        check.refused("a failed one is no change", IllegalStateException.class, () -> Check.run(x, "hill;melt 0"));
        check.refused("a wrong one is no change", IllegalArgumentException.class, () -> Check.run(x, "hill;melt"));
        check.due("one change", 0, () -> x.undo());
        check.due("all undone", 1, () -> x.blockCount() + x.hillCount() + x.writtenTotal());
        Check.run(x, "hill");
        check.due("50 the numbers are taken back", 1, () -> x.write(0));
    }
}
