/** Many runs of calls, drawn by a fixed rule, on a ledger and on the model: every answer must be the same. */
public final class ModelTest {
    private static final int RUNS = 3000;
    private static final int CALLS = 512;
    private static final int METHODS = 54;

    private static final Check check = new Check();
    private static long seed = 20261119L;
    private static SnowLedger x;
    private static Model m;
    /** What is still to be typed of a script. */
    private static String typing = "";
    private static boolean typedToTheEnd;

    public static void main(String[] args) {
        for (int run = 0; run < RUNS; run++) {
            x = new SnowLedger();
            m = new Model();
            typing = "";
            typedToTheEnd = false;
            int scripts = run % 4;
            for (int call = 0; call < CALLS; call++) {
                step(run + "/" + call, scripts);
            }
        }
        check.end();
    }

    private static int draw(int bound) {
        seed = seed * 6364136223846793005L + 1442695040888963407L;
        return (int) ((seed >>> 33) % bound);
    }

    private static void step(String where, int scripts) {
        if (!typing.isEmpty()) {
            char next = typing.charAt(0);
            typing = typing.substring(1);
            same(where + " type " + next, () -> x.type(next), () -> m.type(next));
            typedToTheEnd = typing.isEmpty();
            return;
        }
        if (typedToTheEnd && draw(10) != 0) {
            typedToTheEnd = false;
            same(where + " runScript", () -> x.runScript(), () -> m.runScript());
            return;
        }
        int kind = draw(100);
        if (kind < 10 * scripts && draw(5) == 0) {
            typing = script();
        } else if (kind < 55) {
            change(where);
        } else {
            query(where, draw(METHODS));
        }
    }

    private static int block() {
        int kind = draw(40);
        if (kind == 0) {
            return draw(2) == 0 ? -1 : Integer.MIN_VALUE;
        }
        return kind == 1 ? Integer.MAX_VALUE : draw(m.writtenTotal() + 2);
    }

    private static int hill() {
        int kind = draw(40);
        if (kind == 0) {
            return draw(2) == 0 ? -1 : Integer.MAX_VALUE;
        }
        return kind == 1 ? draw(5) : draw(Math.max(1, m.hillCount()));
    }

    /** Few different flakes, so that some occur more than once; the edges among them. */
    private static int flake() {
        int[] flakes = {0, 1, 2, 55, 19, 24, 98, 99, 7, 42};
        int kind = draw(30);
        if (kind == 0) {
            return draw(2) == 0 ? -1 : 100;
        }
        return kind < 10 ? draw(100) : flakes[draw(flakes.length)];
    }

    private static int position() {
        return draw(20) == 0 ? -1 : draw(5);
    }

    private static void change(String where) {
        int hill = hill();
        int block = block();
        int position = position();
        int flake = flake();
        int kind = draw(25);
        if (m.hillCount() == 0 || kind == 0) {
            same(where + " addHill", () -> x.addHill(), () -> m.addHill());
        } else if (kind < 6) {
            same(where + " collect " + hill + " " + flake, () -> x.collect(hill, flake), () -> m.collect(hill, flake));
        } else if (kind < 12) {
            same(where + " write " + hill, () -> x.write(hill), () -> m.write(hill));
        } else if (kind < 15) {
            same(where + " follow " + hill + " " + block, () -> x.follow(hill, block), () -> m.follow(hill, block));
        } else if (kind < 16) {
            same(where + " melt " + block, () -> x.melt(block), () -> m.melt(block));
        } else if (kind < 18) {
            same(where + " replaceFlake " + block + " " + position + " " + flake,
                    () -> x.replaceFlake(block, position, flake), () -> m.replaceFlake(block, position, flake));
        } else if (kind < 22) {
            same(where + " repair " + block, () -> x.repair(block), () -> m.repair(block));
        } else if (kind < 24) {
            same(where + " undo", () -> x.undo(), () -> m.undo());
        } else if (draw(2) == 0) {
            same(where + " save", () -> x.save(), () -> m.save());
        } else {
            same(where + " restore", () -> x.restore(), () -> m.restore());
        }
    }

    private static String script() {
        StringBuilder text = new StringBuilder();
        int commands = 1 + draw(6);
        for (int i = 0; i < commands; i++) {
            text.append(i == 0 ? "" : ";").append(command());
        }
        if (text.length() > 61) {
            text.setLength(draw(20) == 0 ? 61 : text.lastIndexOf(";", 60));
        }
        if (draw(4) == 0) {
            String signs = "hilwrtefoswampnd 0123456789,;x~A";
            text.setCharAt(draw(text.length()), signs.charAt(draw(signs.length())));
        } else if (draw(8) == 0) {
            text.setLength(1 + draw(text.length()));
        } else if (draw(30) == 0) {
            text.insert(draw(text.length()), (char) (draw(2) == 0 ? 31 : 127));
        }
        return text.toString();
    }

    private static String command() {
        String first = number(m.writtenTotal() + 1);
        String flake = number(100);
        switch (draw(8)) {
            case 0:
                return "hill";
            case 1:
                return "follow " + draw(m.hillCount() + 1) + " " + first;
            case 2:
                return "melt " + first;
            case 3:
                return "swap " + first + " " + draw(3) + " " + flake;
            case 4:
                return "mend " + first;
            default:
                return writing();
        }
    }

    private static String writing() {
        StringBuilder text = new StringBuilder("write ").append(draw(Math.max(1, m.hillCount())));
        int flakes = draw(draw(5) + 1);
        for (int i = 0; i < flakes; i++) {
            text.append(",").append(number(100));
        }
        return text.toString();
    }

    private static String number(int bound) {
        int number = draw(Math.min(100, bound));
        return number < 10 && draw(4) == 0 ? "0" + number : "" + number;
    }

    private static void query(String where, int method) {
        int b = block();
        int c = block();
        int h = hill();
        String what = where + " query " + method + " on " + b + " " + c + " " + h;
        switch (method) {
            case 0 -> same(what, () -> x.blockCount(), () -> m.blockCount());
            case 1 -> same(what, () -> x.exists(b), () -> m.exists(b));
            case 2 -> same(what, () -> x.parentOf(b), () -> m.parentOf(b));
            case 3 -> same(what, () -> x.childCount(b), () -> m.childCount(b));
            case 4 -> same(what, () -> x.writerOf(b), () -> m.writerOf(b));
            case 5 -> same(what, () -> x.flakeCount(b), () -> m.flakeCount(b));
            case 6 -> flakeAt(what, b, position());
            case 7 -> same(what, () -> x.hashOf(b), () -> m.hashOf(b));
            case 8 -> same(what, () -> x.nonceOf(b), () -> m.nonceOf(b));
            case 9 -> same(what, () -> x.rootOfFlakes(b), () -> m.rootOfFlakes(b));
            case 10 -> same(what, () -> x.rootOfFlakesByHalves(b), () -> m.rootOfFlakes(b));
            case 11 -> same(what, () -> x.heightOf(b), () -> m.heightOf(b));
            case 12 -> same(what, () -> x.heightFromRoot(b), () -> m.heightOf(b));
            case 13 -> same(what, () -> x.isValid(b), () -> m.isValid(b));
            case 14 -> same(what, () -> x.isBranchValid(b), () -> m.isBranchValid(b));
            case 15 -> same(what, () -> x.firstInvalid(b), () -> m.firstInvalid(b));
            case 16 -> same(what, () -> x.isInBranch(b, c), () -> m.isInBranch(b, c));
            case 17 -> same(what, () -> x.forkOf(b, c), () -> m.forkOf(b, c));
            case 18 -> same(what, () -> x.meltSize(b), () -> m.meltSize(b));
            case 19 -> same(what, () -> x.tipCount(), () -> m.tipCount());
            case 20, 21 -> tipAtRank(what, draw(7) - 1);
            case 22, 23, 24 -> same(what, () -> x.bestValidBlock(), () -> m.bestValidBlock());
            case 25, 26 -> blockWith(what, flake());
            case 27 -> blocksAtHeight(what, draw(18) - 1);
            case 28 -> same(what, () -> x.differentFlakes(b), () -> m.differentFlakes(b));
            case 29 -> same(what, () -> x.commonFlakes(b, c), () -> m.commonFlakes(b, c));
            case 30, 31, 32 -> same(what, () -> x.repairsNeeded(b), () -> m.repairsNeeded(b));
            case 33 -> same(what, () -> x.hillCount(), () -> m.hillCount());
            case 34 -> same(what, () -> x.followed(h), () -> m.followed(h));
            case 35 -> same(what, () -> x.collected(h), () -> m.collected(h));
            case 36 -> same(what, () -> x.blocksBy(h), () -> m.blocksBy(h));
            case 37, 38 -> same(what, () -> x.nextHash(h), () -> m.nextHash(h));
            case 39 -> same(what, () -> x.writtenTotal(), () -> m.writtenTotal());
            case 40 -> same(what, () -> x.meltedTotal(), () -> m.meltedTotal());
            case 41 -> same(what, () -> x.meanTipHeight(), () -> m.meanTipHeight());
            case 42 -> same(what, () -> x.validShare(), () -> m.validShare());
            case 43 -> same(what, () -> x.isConsistent(), () -> true);
            case 44, 45 -> same(what, () -> x.renderBlock(b), () -> m.renderBlock(b));
            case 46 -> same(what, () -> x.renderBranch(b), () -> m.renderBranch(b));
            case 47, 48, 49 -> outputAt(what, draw(24) - 1);
            case 50 -> same(what, () -> x.errorPosition(), () -> m.errorPosition());
            case 51 -> same(what, () -> x.failedCommand(), () -> m.failedCommand());
            case 52 -> same(what, () -> x.undo(), () -> m.undo());
            default -> same(what, () -> x.runScript(), () -> m.runScript());
        }
    }

    private static void flakeAt(String what, int block, int position) {
        same(what + " at " + position, () -> x.flakeAt(block, position), () -> m.flakeAt(block, position));
    }

    private static void tipAtRank(String what, int rank) {
        same(what + " rank " + rank, () -> x.tipAtRank(rank), () -> m.tipAtRank(rank));
    }

    private static void blockWith(String what, int flake) {
        same(what + " flake " + flake, () -> x.blockWith(flake), () -> m.blockWith(flake));
    }

    private static void blocksAtHeight(String what, int height) {
        same(what + " height " + height, () -> x.blocksAtHeight(height), () -> m.blocksAtHeight(height));
    }

    private static void outputAt(String what, int index) {
        same(what + " index " + index, () -> x.outputAt(index), () -> m.outputAt(index));
    }

    private static void same(String what, Check.Call call, Check.Call due) {
        Object want;
        try {
            want = due.answer();
        } catch (RuntimeException e) {
            want = "throws " + e.getClass().getSimpleName();
        }
        check.due(what, want, call);
    }
}
