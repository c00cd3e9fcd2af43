import java.util.LinkedHashMap;
import java.util.Map;
import java.util.NoSuchElementException;
import java.util.function.Supplier;

/** The sentences of 'Scripts' and of promises 49 to 52. */
final class ScriptSentences {
    private static final String ERROR_POSITION = """
            The error position of a script that does not have this form is the index of the first character that cannot
            continue any script of this form, or the length of the script if every character can and the end comes too
            early.""";
    private static final String DIGITS = "0123456789";
    /** 60 characters and seven commands. */
    private static final String LONGEST = "hill;hill;hill;hill;write 0,01,2,3,4;write 1,1,2,3,4;write 2";

    private ScriptSentences() {
    }

    /** What the script does to two branches: "ran" with its commands, "failed" or "error" with the place. */
    private static String outcome(String script) {
        return outcome(Ledgers.twoBranches(), script);
    }

    private static String outcome(SnowLedger x, String script) {
        Check.type(x, script);
        String answer = Picture.answer(() -> x.runScript());
        if (answer.equals("IllegalArgumentException")) {
            return "error " + x.errorPosition();
        }
        return answer.equals("IllegalStateException") ? "failed " + x.failedCommand() : "ran " + answer;
    }

    private static void outcome(Check check, String due, String script) {
        check.due("'" + script + "'", due, () -> outcome(script));
    }

    // Scripts

    @Sentence(of = "Scripts", text = "A script is typed into a buffer of at most 60 characters and then run.")
    static void sixtyCharacters(Check check) {
        check.due("the longest", 60, () -> LONGEST.length());
        check.due("59", "ran 7", () -> outcome(new SnowLedger(), LONGEST.replace("01", "1")));
        check.due("60", "ran 7", () -> outcome(new SnowLedger(), LONGEST));
        SnowLedger x = new SnowLedger();
        Check.type(x, LONGEST);
        check.refused("the 61st", IllegalStateException.class, () -> x.type(';'));
        check.refused("the 61st again", IllegalStateException.class, () -> x.type('0'));
        check.due("60 of 61", 7, () -> x.runScript());
        check.due("three blocks", 4, () -> x.blockCount());
        check.due("room again", 1, () -> x.type(';'));
    }

    @Sentence(of = "Scripts", text = {"It has the form", "`script = command { \";\" command`}"})
    static void commandsWithSemicolons(Check check) {
        outcome(check, "ran 1", "hill");
        outcome(check, "ran 2", "hill;melt 1");
        outcome(check, "ran 3", "melt 2;melt 1;melt 3");
        outcome(check, "failed 1", "hill;hill;hill;hill;hill;hill;hill;hill;hill;hill;hill;hill");
        outcome(check, "error 0", "");
        outcome(check, "error 0", ";");
        outcome(check, "error 0", ";hill");
        outcome(check, "error 5", "hill;");
        outcome(check, "error 5", "hill;;hill");
        outcome(check, "error 4", "hill hill");
        outcome(check, "error 4", "hill,hill");
        outcome(check, "error 4", "hillhill");
        outcome(check, "error 0", " hill");
        outcome(check, "error 4", "hill ");
        outcome(check, "error 5", "hill; hill");
        outcome(check, "error 4", "hill ;hill");
    }

    @Sentence(of = "Scripts", text = """
            `command = "hill" | "write " digit { "," number` | "follow " digit " " number | "melt " number
            | "swap " number " " digit " " number | "mend " number}""")
    static void everyCommandsForm(Check check) {
        outcome(check, "ran 1", "hill");
        outcome(check, "ran 1", "write 0");
        outcome(check, "ran 1", "write 0,1");
        outcome(check, "ran 1", "write 1,1,22,3,44");
        outcome(check, "ran 1", "follow 0 3");
        outcome(check, "ran 1", "follow 0 03");
        outcome(check, "ran 1", "melt 1");
        outcome(check, "ran 1", "melt 01");
        outcome(check, "ran 1", "swap 1 0 5");
        outcome(check, "ran 1", "swap 01 2 05");
        outcome(check, "failed 0", "mend 1");
        outcome(check, "failed 0", "mend 01");
        outcome(check, "ran 2", "swap 1 0 5;mend 1");
        outcome(check, "error 7", "write 00");
        outcome(check, "error 8", "follow 00 3");
        outcome(check, "error 9", "swap 01 00 5");
        outcome(check, "error 0", "HILL");
        outcome(check, "error 0", "collect 0 1");
        outcome(check, "error 0", "repair 1");
        outcome(check, "error 0", "undo");
        outcome(check, "error 4", "hill0");
        outcome(check, "error 5", "melt -1");
        outcome(check, "error 6", "write -1");
        outcome(check, "error 6", "melt 1.0");
    }

    @Sentence(of = "Scripts", text = "`number = digit [ digit ]`")
    static void numbersOfOneOrTwoDigits(Check check) {
        for (int number = 0; number < 100; number++) {
            String due = number >= 1 && number <= 4 ? "ran 1" : "failed 0";
            outcome(check, due, "melt " + number);
            outcome(check, due, "melt " + number / 10 + number % 10);
            String flake = "swap 1 0 " + number;
            int stored = number;
            SnowLedger x = Ledgers.twoBranches();
            check.due(flake, 1, () -> Check.run(x, flake));
            check.due(flake + " in truth", stored, () -> x.flakeAt(1, 0));
        }
        outcome(check, "error 5", "melt ");
        outcome(check, "error 7", "melt 100");
        outcome(check, "error 7", "melt 001");
        outcome(check, "error 10", "write 0,100");
        outcome(check, "error 11", "follow 0 003");
        outcome(check, "error 7", "swap 001 0 5");
        outcome(check, "error 11", "swap 1 0 005");
        outcome(check, "error 7", "mend 001");
    }

    @Sentence(of = "Scripts", text = "where braces mean zero or more repetitions, brackets an optional part, "
            + "and a bar an alternative.")
    static void repetitionsAndOptionalParts(Check check) {
        StringBuilder flakes = new StringBuilder("write 0");
        for (int count = 0; count <= 26; count++) {
            outcome(check, count <= 4 ? "ran 1" : "failed 0", flakes.toString());
            flakes.append(",").append(count % 10);
        }
        StringBuilder commands = new StringBuilder("hill");
        for (int count = 1; count <= 12; count++) {
            String due = count <= 4 ? "ran " + count : "failed 4";
            String script = commands.toString();
            check.due("'" + script + "'", due, () -> outcome(new SnowLedger(), script));
            commands.append(";hill");
        }
    }

    @Sentence(of = "Scripts", text = """
            The commands hill, follow, melt, swap and mend stand for the methods addHill, follow, melt, replaceFlake and
            repair with the numbers as arguments in the order of the parameters.""")
    static void commandsStandForMethods(Check check) {
        standsFor(check, "hill", x -> x.addHill());
        standsFor(check, "follow 1 2", x -> x.follow(1, 2));
        standsFor(check, "follow 2 1", x -> x.follow(2, 1));
        standsFor(check, "follow 0 00", x -> x.follow(0, 0));
        standsFor(check, "melt 1", x -> x.melt(1));
        standsFor(check, "melt 03", x -> x.melt(3));
        standsFor(check, "swap 1 2 4", x -> x.replaceFlake(1, 2, 4));
        standsFor(check, "swap 4 1 02", x -> x.replaceFlake(4, 1, 2));
        standsFor(check, "swap 02 0 99", x -> x.replaceFlake(2, 0, 99));
        standsFor(check, "mend 4", x -> x.repair(4));
        standsFor(check, "mend 04", x -> x.repair(4));
    }

    /** The script does what the call does, on two branches of which block 4 is invalid. */
    private static void standsFor(Check check, String script, LedgerCall change) {
        Supplier<SnowLedger> called = () -> {
            SnowLedger x = invalidTip();
            change.on(x);
            return x;
        };
        Supplier<SnowLedger> typed = () -> {
            SnowLedger x = invalidTip();
            Check.run(x, script);
            return x;
        };
        check.due("it changes something", false, () -> Picture.state(called.get()).equals(Picture.state(invalidTip())));
        check.due("'" + script + "'", Picture.besideScripts(called), () -> Picture.besideScripts(typed));
    }

    private static SnowLedger invalidTip() {
        SnowLedger ledger = Ledgers.twoBranches();
        ledger.replaceFlake(4, 0, 12);
        return ledger;
    }

    @Sentence(of = "Scripts", text = """
            The command write stands for a call of collect for each number after the hill, in order, and a call of
            write for the hill behind them; it fails if one of these calls fails.""")
    static void writeCollectsAndWrites(Check check) {
        writes(check, "write 0");
        writes(check, "write 0,8", 8);
        writes(check, "write 0,99,0,8,08", 99, 0, 8, 8);
        writes(check, "write 2", 5);
        writes(check, "write 2,6,07,5", 5, 6, 7, 5);
        outcome(check, "ran 1", "write 0,1,2,3,4");
        outcome(check, "failed 0", "write 0,1,2,3,4,5");
        outcome(check, "ran 1", "write 2,1,2,3");
        outcome(check, "failed 0", "write 2,1,2,3,4");
        outcome(check, "failed 0", "write 3");
        outcome(check, "failed 0", "write 3,1");
        outcome(check, "failed 1", "hill;write 4");
        outcome(check, "ran 2", "hill;write 3");
        outcome(check, "failed 1", "swap 1 0 5;write 0");
        check.due("full", "failed 0", () -> outcome(Ledgers.chain(15), "write 0"));
        check.due("the last room", "ran 1", () -> outcome(Ledgers.chain(14), "write 0"));
    }

    private static void writes(Check check, String script, int... flakes) {
        SnowLedger x = Ledgers.twoBranches();
        int hill = script.charAt(6) - '0';
        check.due("'" + script + "'", 1, () -> Check.run(x, script));
        check.due("flakes of '" + script + "'", flakes.length, () -> x.flakeCount(5));
        for (int position = 0; position < flakes.length; position++) {
            int at = position;
            check.due("flake " + at + " of '" + script + "'", flakes[at], () -> x.flakeAt(5, at));
        }
        check.due("the hill has none left", 0, () -> x.collected(hill));
        check.due("the hill follows", 5, () -> x.followed(hill));
        check.due("the hill wrote", hill, () -> x.writerOf(5));
    }

    @Sentence(of = "Scripts", text = "The commands are executed in order, "
            + "and either all of them take effect or none.")
    static void allOrNone(Check check) {
        SnowLedger x = Ledgers.twoBranches();
        check.due("in order", "ran 5", () -> outcome(x, "swap 1 0 5;mend 1;follow 0 1;write 0,9;melt 2"));
        int mended = Due.hash(1, Due.root(5, 20, 30), 0);
        check.due("mended", "1#" + mended + "<0h0,5,20,30", () -> Check.output(x, x.renderBlock(1)));
        check.due("written after it was mended", Due.hash(mended, 9, 0), () -> x.hashOf(5));
        check.due("written on the mended", 1, () -> x.parentOf(5));
        check.due("melted", false, () -> x.exists(2));
        String[] scripts = {"melt 9", "hill;melt 9", "melt 1;write 1,3;follow 2 5;swap 3 0 1",
            "swap 1 0 1;mend 1;melt 3;melt 3", "write 2,1,2,3,4", "write 0,1,2;write 1,3;write 2;write 3"};
        String before = Picture.besideScripts(Ledgers::wellUsed);
        for (String script : scripts) {
            check.due("none of '" + script + "'", before, () -> Picture.besideScripts(() -> {
                SnowLedger y = Ledgers.wellUsed();
                y.type('x');
                Picture.answer(() -> y.runScript());
                outcome(y, script + ";hill");
                return y;
            }));
        }
    }

    @Sentence(of = "Scripts", text = ERROR_POSITION)
    static void everyCharacterAfterEveryBeginning(Check check) {
        Map<String, String> next = continuations();
        for (String beginning : next.keySet()) {
            for (char character = 32; character <= 126; character++) {
                String script = beginning + character;
                boolean fits = next.get(beginning).indexOf(character) >= 0;
                if (fits && Model.hasForm(script)) {
                    check.due("form of '" + script + "'", false, () -> outcome(script).startsWith("error"));
                } else {
                    outcome(check, "error " + (fits ? script.length() : beginning.length()), script);
                }
            }
        }
    }

    /** Each beginning of a command, with a text of digits as 1 and 23, and the characters that can stand behind it. */
    private static Map<String, String> continuations() {
        Map<String, String> next = new LinkedHashMap<>();
        next.put("", "hwfms");
        word(next, "hill", ";");
        word(next, "write ", DIGITS);
        word(next, "follow ", DIGITS);
        word(next, "melt ", DIGITS);
        word(next, "mend ", DIGITS);
        word(next, "swap ", DIGITS);
        next.put("me", "ln");
        for (char digit : DIGITS.toCharArray()) {
            next.put("write " + digit, ",;");
            next.put("write 1," + digit, DIGITS + ",;");
            next.put("write 1,2" + digit, ",;");
            next.put("follow " + digit, " ");
            next.put("follow 1 " + digit, DIGITS + ";");
            next.put("follow 1 2" + digit, ";");
            next.put("melt " + digit, DIGITS + ";");
            next.put("melt 1" + digit, ";");
            next.put("mend " + digit, DIGITS + ";");
            next.put("mend 1" + digit, ";");
            next.put("swap " + digit, DIGITS + " ");
            next.put("swap 1" + digit, " ");
            next.put("swap 1 " + digit, " ");
            next.put("swap 12 " + digit, " ");
            next.put("swap 1 2 " + digit, DIGITS + ";");
            next.put("swap 1 2 3" + digit, ";");
        }
        next.put("write 1,", DIGITS);
        next.put("write 1,23,", DIGITS);
        next.put("follow 1 ", DIGITS);
        next.put("swap 1 ", DIGITS);
        next.put("swap 12 ", DIGITS);
        next.put("swap 1 2 ", DIGITS);
        next.put("hill;", "hwfms");
        next.put("write 1;", "hwfms");
        next.put("write 1,2;", "hwfms");
        next.put("follow 1 2;", "hwfms");
        next.put("melt 12;", "hwfms");
        next.put("mend 1;", "hwfms");
        next.put("swap 1 2 3;", "hwfms");
        next.put("melt 1;me", "ln");
        next.put("hill;hill", ";");
        return next;
    }

    /** Every beginning of the word is followed by its next letter alone, and the whole by the characters. */
    private static void word(Map<String, String> next, String word, String behind) {
        for (int length = 1; length < word.length(); length++) {
            next.put(word.substring(0, length), word.substring(length, length + 1));
        }
        next.put(word, behind);
    }

    @Sentence(of = "Scripts", text = ERROR_POSITION)
    static void earlyEndsAndFirstMisfits(Check check) {
        Map<String, String> next = continuations();
        for (String beginning : next.keySet()) {
            if (!next.get(beginning).contains(";")) {
                outcome(check, "error " + beginning.length(), beginning);
                if (beginning.length() < 40) {
                    outcome(check, "error " + (beginning.length() + 5), "hill;" + beginning);
                }
            }
            outcome(check, "error " + beginning.length(), beginning + "x;hill;y");
            outcome(check, "error " + beginning.length(), beginning + "!!");
        }
        String full = "hill;hill;hill;hill;hill;hill;hill;hill;hill;hill;hill;";
        check.due("55 characters", 55, () -> full.length());
        outcome(check, "error 60", full + "hill;");
        outcome(check, "error 60", full + "melt ");
        outcome(check, "error 60", full + "swap ");
        outcome(check, "error 58", full + "hil");
        outcome(check, "error 58", full + "hilx");
        outcome(check, "error 59", full + "hillx");
        outcome(check, "error 55", full + "xxxxx");
    }

    // Promise 49

    @Sentence(of = "Promise 49", text = "Appends a character to the script buffer.")
    static void appendedCharacters(Check check) {
        SnowLedger x = new SnowLedger();
        for (char character : "hill".toCharArray()) {
            x.type(character);
            check.due("no hill yet", 0, () -> x.hillCount());
        }
        check.due("in order", 1, () -> x.runScript());
        check.due("one hill", 1, () -> x.hillCount());
        check.refused("typing is no change", IllegalArgumentException.class, () -> {
            x.type('~');
            return x.runScript();
        });
        check.due("the script is the only one", 0, () -> x.undo());
    }

    @Sentence(of = "Promise 49", text = "Returns the length of the script buffer.")
    static void lengthOfTheBuffer(Check check) {
        SnowLedger x = new SnowLedger();
        for (int length = 1; length <= 60; length++) {
            int due = length;
            check.due("typed", due, () -> x.type((char) (32 + due)));
        }
        check.refused("it runs", IllegalArgumentException.class, () -> x.runScript());
        check.due("from 1 again", 1, () -> x.type(' '));
        x.addHill();
        x.undo();
        x.save();
        x.restore();
        check.due("beside other calls", 2, () -> x.type(' '));
    }

    @Sentence(of = "Promise 49", text = "Throws `IllegalArgumentException` if the character code "
            + "is not between 32 and 126")
    static void codesThatCannotBeTyped(Check check) {
        for (int code = 0; code <= 300; code++) {
            char character = (char) code;
            SnowLedger x = new SnowLedger();
            if (code >= 32 && code <= 126) {
                check.due("code " + code, 1, () -> x.type(character));
            } else {
                check.refused("code " + code, IllegalArgumentException.class, () -> x.type(character));
            }
        }
        Refusals.of(check, Ledgers::wellUsed)
                .argument("code 0", x -> x.type((char) 0))
                .argument("code 31", x -> x.type((char) 31))
                .argument("code 127", x -> x.type((char) 127))
                .argument("code 255", x -> x.type((char) 255))
                .argument("code 256 + 104", x -> x.type((char) (256 + 'h')))
                .argument("code 32767", x -> x.type((char) 32767))
                .argument("code 32768", x -> x.type((char) 32768))
                .argument("code 65535", x -> x.type((char) 65535))
                .leaveAllAsItWas();
    }

    @Sentence(of = "Promise 49", text = "Throws `IllegalStateException` if the script buffer has 60 characters")
    static void fullBuffer(Check check) {
        Supplier<SnowLedger> full = () -> {
            SnowLedger x = new SnowLedger();
            Check.type(x, LONGEST);
            return x;
        };
        check.due("the 60th", 60, () -> {
            SnowLedger x = new SnowLedger();
            Check.type(x, LONGEST.substring(0, 59));
            return x.type('2');
        });
        Refusals.of(check, full)
                .state("the 61st", x -> x.type('h'))
                .state("the 61st, of the form", x -> x.type(','))
                .state("the 61st, code 32", x -> x.type(' '))
                .state("the 61st, code 126", x -> x.type('~'))
                .leaveAllAsItWas();
    }

    // Promise 50

    @Sentence(of = "Promise 50", text = "Runs the script in the script buffer.")
    static void scriptsRun(Check check) {
        SnowLedger x = new SnowLedger();
        check.due("hills", "ran 2", () -> outcome(x, "hill;hill"));
        check.due("two hills", 2, () -> x.hillCount());
        check.due("blocks", "ran 3", () -> outcome(x, "write 1,5,6;write 1;follow 0 1"));
        check.due("block 1", "1#" + Due.hash(1, Due.root(5, 6), 1) + "<0h1,5,6",
                () -> Check.output(x, x.renderBlock(1)));
        check.due("block 2", "2#" + Due.hash(x.hashOf(1), 0, 1) + "<1h1", () -> Check.output(x, x.renderBlock(2)));
        check.due("followed", 1 + 2, () -> x.followed(0) + x.followed(1));
    }

    @Sentence(of = "Promise 50", text = "The buffer is empty afterwards, also if an exception is thrown.")
    static void bufferIsEmptyAfterwards(Check check) {
        String[] scripts = {"hill", "melt 9", "hil", "", "hill;melt 9", LONGEST, "x" + LONGEST.substring(1)};
        for (String script : scripts) {
            SnowLedger x = new SnowLedger();
            outcome(x, script);
            check.due("after '" + script + "'", 1, () -> x.type('m'));
            SnowLedger y = new SnowLedger();
            outcome(y, script);
            check.due("an empty script after '" + script + "'", "error 0", () -> outcome(y, ""));
            check.due("a script after '" + script + "'", "failed 0", () -> outcome(y, "melt 9"));
        }
    }

    @Sentence(of = "Promise 50", text = "Returns the number of commands.")
    static void countOfCommands(Check check) {
        outcome(check, "ran 1", "hill");
        outcome(check, "ran 1", "write 0,1,2,3,4");
        outcome(check, "ran 2", "write 0,1,2,3,4;write 0,1,2,3,4");
        outcome(check, "ran 3", "follow 0 1;follow 0 2;follow 0 3");
        check.due("nine", "ran 9", () -> outcome(new SnowLedger(),
                "hill;hill;write 0;melt 1;write 1;melt 2;hill;hill;write 3"));
        check.due("the longest", "ran 7", () -> outcome(new SnowLedger(), LONGEST));
    }

    @Sentence(of = "Promise 50", text = "Throws `IllegalArgumentException` if the script does not have the required "
            + "form; errorPosition then returns its error position")
    static void scriptsWithoutTheForm(Check check) {
        String[] scripts = {"", "hil", "hill;", "hill;hill;x", "melt 1;melt 003", "write 0,1;swap 1 0 1;mend"};
        int[] positions = {0, 3, 5, 10, 14, 25};
        Supplier<SnowLedger> made = Ledgers::twoBranches;
        String before = Picture.besideScripts(made);
        for (int i = 0; i < scripts.length; i++) {
            String script = scripts[i];
            int position = positions[i];
            SnowLedger x = made.get();
            Check.type(x, script);
            check.refused("'" + script + "'", IllegalArgumentException.class, () -> x.runScript());
            check.due("position of '" + script + "'", position, () -> x.errorPosition());
            check.refused("no command failed", NoSuchElementException.class, () -> x.failedCommand());
            check.due("none of '" + script + "'", before, () -> Picture.besideScripts(() -> {
                SnowLedger y = made.get();
                outcome(y, script);
                return y;
            }));
        }
    }

    @Sentence(of = "Promise 50", text = "Throws `IllegalStateException` if the method for a command throws an "
            + "exception; no command takes effect, and failedCommand then returns the index of that command")
    static void everyWayToFail(Check check) {
        fails(check, "a fifth hill", 1, "hill;hill", Ledgers::twoBranches);
        fails(check, "collect, no hill", 0, "write 3,1", Ledgers::twoBranches);
        fails(check, "collect, a fifth flake", 1, "write 0,1;write 2,1,2,3,4", Ledgers::twoBranches);
        fails(check, "write, no hill", 0, "write 9", Ledgers::twoBranches);
        fails(check, "write, 16 blocks", 1, "write 0;write 0", () -> Ledgers.chain(14));
        fails(check, "write, an invalid branch", 2, "hill;swap 1 0 5;write 0", Ledgers::twoBranches);
        fails(check, "follow, no hill", 1, "hill;follow 4 0", Ledgers::twoBranches);
        fails(check, "follow, no block", 0, "follow 0 5", Ledgers::twoBranches);
        fails(check, "follow, melted before", 1, "melt 1;follow 0 2", Ledgers::twoBranches);
        fails(check, "melt, no block", 0, "melt 99", Ledgers::twoBranches);
        fails(check, "melt, the root", 3, "melt 4;melt 3;melt 1;melt 0", Ledgers::twoBranches);
        fails(check, "swap, no block", 0, "swap 5 0 1", Ledgers::twoBranches);
        fails(check, "swap, no position", 1, "swap 1 2 1;swap 1 3 1", Ledgers::twoBranches);
        fails(check, "swap, no position of the root", 0, "swap 0 0 1", Ledgers::twoBranches);
        fails(check, "mend, no block", 0, "mend 5", Ledgers::twoBranches);
        fails(check, "mend, the root", 0, "mend 0", Ledgers::twoBranches);
        fails(check, "mend, valid", 2, "swap 1 0 5;mend 1;mend 1", Ledgers::twoBranches);
        fails(check, "the last of nine", 8, "melt 1;melt 2;melt 3;melt 4;melt 5;hill;hill;hill;hill",
                () -> Ledgers.star(5));
    }

    private static void fails(Check check, String what, int command, String script, Supplier<SnowLedger> made) {
        SnowLedger x = made.get();
        Check.type(x, script);
        check.refused(what, IllegalStateException.class, () -> x.runScript());
        check.due(what + ", command", command, () -> x.failedCommand());
        check.refused(what + ", the form is right", NoSuchElementException.class, () -> x.errorPosition());
        check.due(what + ", no effect", Picture.besideScripts(made), () -> Picture.besideScripts(() -> {
            SnowLedger y = made.get();
            outcome(y, script);
            return y;
        }));
    }

    // Promise 51

    @Sentence(of = "Promise 51", text = {"Returns the error position of the latest script "
            + "that did not have the required form.", "Returns the error position."})
    static void latestErrorPosition(Check check) {
        SnowLedger x = new SnowLedger();
        check.due("the first", "error 3", () -> outcome(x, "hil"));
        check.due("asked again", 3, () -> x.errorPosition());
        check.due("the second", "error 0", () -> outcome(x, "x"));
        check.due("the third", "error 9", () -> outcome(x, "hill;hillx"));
        check.due("a good one", "ran 1", () -> outcome(x, "hill"));
        check.due("after a good one", 9, () -> x.errorPosition());
        check.due("a failed one", "failed 0", () -> outcome(x, "melt 1"));
        check.due("after a failed one", 9, () -> x.errorPosition());
        x.undo();
        check.due("after an undo", 9, () -> x.errorPosition());
        Check.type(x, "melt ");
        check.due("a script typed, but not run", 9, () -> x.errorPosition());
        check.refused("run", IllegalArgumentException.class, () -> x.runScript());
        check.due("then its own", 5, () -> x.errorPosition());
    }

    @Sentence(of = "Promise 51", text = "Throws `NoSuchElementException` if there was no such script")
    static void noErrorPosition(Check check) {
        Refusals.of(check, SnowLedger::new).element("new", x -> x.errorPosition()).leaveAllAsItWas();
        Refusals.of(check, () -> {
            SnowLedger x = Ledgers.twoBranches();
            outcome(x, "hill");
            outcome(x, "melt 9");
            Check.type(x, "x");
            return x;
        }).element("good and failed ones alone", x -> x.errorPosition()).leaveAllAsItWas();
        check.due("at the first character", "error 0", () -> outcome("x"));
    }

    // Promise 52

    @Sentence(of = "Promise 52", text = {"Returns the index of the command that failed in the latest script "
            + "with a failed command.", "Returns the index of the command, counted from 0."})
    static void latestFailedCommand(Check check) {
        SnowLedger x = new SnowLedger();
        check.due("the first", "failed 1", () -> outcome(x, "hill;melt 1;melt 2"));
        check.due("asked again", 1, () -> x.failedCommand());
        check.due("the first command", "failed 0", () -> outcome(x, "melt 1;hill"));
        check.due("the fifth", "failed 4", () -> outcome(x, "hill;hill;hill;hill;hill"));
        check.due("a good one", "ran 1", () -> outcome(x, "hill"));
        check.due("after a good one", 4, () -> x.failedCommand());
        check.due("one without the form", "error 5", () -> outcome(x, "melt "));
        check.due("after one without the form", 4, () -> x.failedCommand());
        x.undo();
        check.due("after an undo", 4, () -> x.failedCommand());
        check.refused("a refused call is no script", NoSuchElementException.class, () -> x.melt(9));
        check.due("after a refused call", 4, () -> x.failedCommand());
        check.due("a write with flakes is one command", "failed 2", () -> outcome(x, "hill;write 0,1,2,3;write 1"));
    }

    @Sentence(of = "Promise 52", text = "Throws `NoSuchElementException` if there was no such script")
    static void noFailedCommand(Check check) {
        Refusals.of(check, SnowLedger::new).element("new", x -> x.failedCommand()).leaveAllAsItWas();
        Refusals.of(check, () -> {
            SnowLedger x = Ledgers.twoBranches();
            outcome(x, "hill");
            outcome(x, "hil");
            Picture.answer(() -> x.melt(9));
            Check.type(x, "melt 9");
            return x;
        }).element("good ones and ones without the form alone", x -> x.failedCommand()).leaveAllAsItWas();
        check.due("at the first command", "failed 0", () -> outcome("melt 9"));
    }
}
