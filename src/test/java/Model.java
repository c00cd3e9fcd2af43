import java.util.ArrayDeque;
import java.util.ArrayList;
import java.util.Comparator;
import java.util.Deque;
import java.util.HashSet;
import java.util.List;
import java.util.Map;
import java.util.NoSuchElementException;
import java.util.Set;
import java.util.TreeMap;
import java.util.TreeSet;
import java.util.regex.Pattern;

/** The document once more, written for plainness alone: states that never change, each call making a new one. */
final class Model {
    record Block(int number, int parent, int writer, List<Integer> flakes, int hash, int nonce) { }

    record Hill(int followed, List<Integer> held) { }

    record State(TreeMap<Integer, Block> blocks, List<Hill> hills, int next, int written, int melted) { }

    private static final Pattern FORM;

    static {
        String number = "[0-9][0-9]?";
        String command = "(hill|write [0-9](," + number + ")*|follow [0-9] " + number + "|melt " + number
                + "|swap " + number + " [0-9] " + number + "|mend " + number + ")";
        FORM = Pattern.compile(command + "(;" + command + ")*");
    }

    private State now;
    private final Deque<State> before = new ArrayDeque<>();
    private State snapshot;
    private String script = "";
    private String output = "";
    private Integer errorPosition;
    private Integer failedCommand;

    Model() {
        TreeMap<Integer, Block> blocks = new TreeMap<>();
        blocks.put(0, new Block(0, -1, -1, List.of(), 1, -1));
        now = new State(blocks, List.of(), 1, 0, 0);
    }

    private void changed(State old) {
        before.push(old);
        if (before.size() > 8) {
            before.removeLast();
        }
    }

    private Block block(int number) {
        Block block = now.blocks.get(number);
        if (block == null) {
            throw new NoSuchElementException();
        }
        return block;
    }

    private Block written(int number) {
        Block block = block(number);
        if (number == 0) {
            throw new NoSuchElementException();
        }
        return block;
    }

    private Hill hill(int index) {
        if (index < 0 || index >= now.hills.size()) {
            throw new IndexOutOfBoundsException();
        }
        return now.hills.get(index);
    }

    private static void needFlake(int flake) {
        if (flake < 0 || flake > 99) {
            throw new IllegalArgumentException();
        }
    }

    private static List<Hill> with(List<Hill> hills, int index, Hill hill) {
        List<Hill> copy = new ArrayList<>(hills);
        copy.set(index, hill);
        return copy;
    }

    private TreeMap<Integer, Block> with(Block block) {
        TreeMap<Integer, Block> copy = new TreeMap<>(now.blocks);
        copy.put(block.number, block);
        return copy;
    }

    static int root(List<Integer> flakes) {
        if (flakes.isEmpty()) {
            return 0;
        }
        List<Integer> list = flakes;
        while (list.size() > 1) {
            List<Integer> shorter = new ArrayList<>();
            for (int i = 0; i < list.size(); i += 2) {
                int a = list.get(i);
                int b = list.get(i + 1 < list.size() ? i + 1 : i);
                shorter.add((31 * a + 17 * b + 7) % 997);
            }
            list = shorter;
        }
        return list.get(0);
    }

    private static int hash(int parentHash, List<Integer> flakes, int writer, int nonce) {
        return (61 * parentHash + 29 * root(flakes) + 13 * writer + nonce) % 9973;
    }

    private static Block sealed(int number, Block parent, int writer, List<Integer> flakes) {
        int nonce = 0;
        while (hash(parent.hash, flakes, writer, nonce) % 4 != 0) {
            nonce++;
        }
        return new Block(number, parent.number, writer, flakes, hash(parent.hash, flakes, writer, nonce), nonce);
    }

    private List<Block> branch(int number) {
        List<Block> branch = new ArrayList<>();
        for (int at = number; at >= 0; at = now.blocks.get(at).parent) {
            branch.add(block(at));
        }
        return branch;
    }

    private boolean valid(Block block) {
        return block.number == 0
                || block.hash == hash(block(block.parent).hash, block.flakes, block.writer, block.nonce);
    }

    private boolean branchValid(int number) {
        return branch(number).stream().allMatch(this::valid);
    }

    private int height(int number) {
        return branch(number).size() - 1;
    }

    private List<Block> above(int number) {
        block(number);
        return now.blocks.values().stream().filter(b -> branch(b.number).contains(block(number))).toList();
    }

    private List<Block> tips() {
        return now.blocks.values().stream().filter(b -> childCount(b.number) == 0).sorted(rank()).toList();
    }

    private Comparator<Block> rank() {
        return Comparator.<Block>comparingInt(b -> -height(b.number)).thenComparingInt(Block::hash)
                .thenComparingInt(Block::number);
    }

    private Set<Integer> flakesOfBranch(int number) {
        Set<Integer> flakes = new TreeSet<>();
        branch(number).forEach(b -> flakes.addAll(b.flakes));
        return flakes;
    }

    int addHill() {
        if (now.hills.size() == 4) {
            throw new IllegalStateException();
        }
        changed(now);
        List<Hill> hills = new ArrayList<>(now.hills);
        hills.add(new Hill(0, List.of()));
        now = new State(now.blocks, hills, now.next, now.written, now.melted);
        return hills.size() - 1;
    }

    int collect(int index, int flake) {
        Hill hill = hill(index);
        needFlake(flake);
        if (hill.held.size() == 4) {
            throw new IllegalStateException();
        }
        changed(now);
        List<Integer> held = new ArrayList<>(hill.held);
        held.add(flake);
        now = new State(now.blocks, with(now.hills, index, new Hill(hill.followed, held)), now.next, now.written,
                now.melted);
        return held.size();
    }

    int write(int index) {
        Hill hill = hill(index);
        if (now.blocks.size() == 16) {
            throw new IllegalStateException();
        }
        if (!branchValid(hill.followed)) {
            throw new UnsupportedOperationException();
        }
        changed(now);
        Block block = sealed(now.next, block(hill.followed), index, hill.held);
        now = new State(with(block), with(now.hills, index, new Hill(block.number, List.of())), now.next + 1,
                now.written + 1, now.melted);
        return block.number;
    }

    int follow(int index, int number) {
        Hill hill = hill(index);
        block(number);
        changed(now);
        now = new State(now.blocks, with(now.hills, index, new Hill(number, hill.held)), now.next, now.written,
                now.melted);
        return hill.followed;
    }

    int melt(int number) {
        Block block = block(number);
        if (number == 0) {
            throw new IllegalArgumentException();
        }
        changed(now);
        Set<Integer> gone = new HashSet<>();
        above(number).forEach(b -> gone.add(b.number));
        TreeMap<Integer, Block> blocks = new TreeMap<>(now.blocks);
        blocks.keySet().removeAll(gone);
        List<Hill> hills = new ArrayList<>();
        for (Hill hill : now.hills) {
            hills.add(gone.contains(hill.followed) ? new Hill(block.parent, hill.held) : hill);
        }
        now = new State(blocks, hills, now.next, now.written, now.melted + gone.size());
        return gone.size();
    }

    int replaceFlake(int number, int position, int flake) {
        Block block = block(number);
        if (position < 0 || position >= block.flakes.size()) {
            throw new IndexOutOfBoundsException();
        }
        needFlake(flake);
        changed(now);
        List<Integer> flakes = new ArrayList<>(block.flakes);
        int old = flakes.set(position, flake);
        now = new State(with(new Block(number, block.parent, block.writer, flakes, block.hash, block.nonce)),
                now.hills, now.next, now.written, now.melted);
        return old;
    }

    int repair(int number) {
        Block block = block(number);
        if (number == 0) {
            throw new IllegalArgumentException();
        }
        if (valid(block)) {
            throw new IllegalStateException();
        }
        changed(now);
        Block repaired = sealed(number, block(block.parent), block.writer, block.flakes);
        now = new State(with(repaired), now.hills, now.next, now.written, now.melted);
        return repaired.hash;
    }

    int blockCount() {
        return now.blocks.size();
    }

    boolean exists(int number) {
        return now.blocks.containsKey(number);
    }

    int parentOf(int number) {
        return written(number).parent;
    }

    int childCount(int number) {
        block(number);
        return (int) now.blocks.values().stream().filter(b -> b.parent == number).count();
    }

    int writerOf(int number) {
        return written(number).writer;
    }

    int flakeCount(int number) {
        return block(number).flakes.size();
    }

    int flakeAt(int number, int position) {
        Block block = block(number);
        if (position < 0 || position >= block.flakes.size()) {
            throw new IndexOutOfBoundsException();
        }
        return block.flakes.get(position);
    }

    int hashOf(int number) {
        return block(number).hash;
    }

    int nonceOf(int number) {
        return written(number).nonce;
    }

    int rootOfFlakes(int number) {
        return root(block(number).flakes);
    }

    int heightOf(int number) {
        block(number);
        return height(number);
    }

    boolean isValid(int number) {
        return valid(block(number));
    }

    boolean isBranchValid(int number) {
        block(number);
        return branchValid(number);
    }

    int firstInvalid(int number) {
        block(number);
        return branch(number).stream().filter(b -> !valid(b)).reduce((a, b) -> b).orElseThrow().number;
    }

    boolean isInBranch(int ancestor, int number) {
        block(number);
        return branch(number).contains(block(ancestor));
    }

    int forkOf(int first, int second) {
        block(first);
        block(second);
        List<Block> other = branch(second);
        return branch(first).stream().filter(other::contains).findFirst().orElseThrow().number;
    }

    int meltSize(int number) {
        return above(number).size();
    }

    int tipCount() {
        return tips().size();
    }

    int tipAtRank(int rank) {
        if (rank < 0 || rank >= tipCount()) {
            throw new NoSuchElementException();
        }
        return tips().get(rank).number;
    }

    int bestValidBlock() {
        return now.blocks.values().stream().filter(b -> branchValid(b.number)).min(rank()).orElseThrow().number;
    }

    int blockWith(int flake) {
        needFlake(flake);
        return now.blocks.values().stream().filter(b -> b.flakes.contains(flake))
                .min(Comparator.<Block>comparingInt(b -> height(b.number)).thenComparingInt(Block::number))
                .orElseThrow().number;
    }

    int blocksAtHeight(int height) {
        if (height < 0 || height > 15) {
            throw new IllegalArgumentException();
        }
        return (int) now.blocks.values().stream().filter(b -> height(b.number) == height).count();
    }

    int differentFlakes(int number) {
        block(number);
        return flakesOfBranch(number).size();
    }

    int commonFlakes(int first, int second) {
        block(first);
        block(second);
        Set<Integer> common = flakesOfBranch(first);
        common.retainAll(flakesOfBranch(second));
        return common.size();
    }

    /** Repairs in earnest, and goes back to the state before. */
    int repairsNeeded(int number) {
        block(number);
        State old = now;
        int repairs = 0;
        List<Block> branch = branch(number);
        for (int i = branch.size() - 2; i >= 0; i--) {
            Block block = block(branch.get(i).number);
            if (!valid(block)) {
                Block repaired = sealed(block.number, block(block.parent), block.writer, block.flakes);
                now = new State(with(repaired), now.hills, now.next, now.written, now.melted);
                repairs++;
            }
        }
        now = old;
        return repairs;
    }

    int hillCount() {
        return now.hills.size();
    }

    int followed(int index) {
        return hill(index).followed;
    }

    int collected(int index) {
        return hill(index).held.size();
    }

    int blocksBy(int index) {
        hill(index);
        return (int) now.blocks.values().stream().filter(b -> b.writer == index).count();
    }

    int nextHash(int index) {
        Hill hill = hill(index);
        return sealed(now.next, block(hill.followed), index, hill.held).hash;
    }

    int writtenTotal() {
        return now.written;
    }

    int meltedTotal() {
        return now.melted;
    }

    double meanTipHeight() {
        int sum = tips().stream().mapToInt(b -> height(b.number)).sum();
        return (double) sum / (double) tipCount();
    }

    float validShare() {
        return (float) now.blocks.values().stream().filter(this::valid).count() / (float) now.blocks.size();
    }

    int renderBlock(int number) {
        Block block = block(number);
        String text = number + "#" + block.hash;
        if (number != 0) {
            text += "<" + block.parent + "h" + block.writer;
        }
        for (int flake : block.flakes) {
            text += "," + flake;
        }
        output = text + (valid(block) ? "" : "!");
        return output.length();
    }

    int renderBranch(int number) {
        block(number);
        output = String.join("-", branch(number).stream().map(b -> "" + b.number).toList());
        return output.length();
    }

    char outputAt(int index) {
        if (index < 0 || index >= output.length()) {
            throw new IndexOutOfBoundsException();
        }
        return output.charAt(index);
    }

    int type(char character) {
        if (character < 32 || character > 126) {
            throw new IllegalArgumentException();
        }
        if (script.length() == 60) {
            throw new IllegalStateException();
        }
        script += character;
        return script.length();
    }

    static boolean hasForm(String text) {
        return FORM.matcher(text).matches();
    }

    int runScript() {
        String text = script;
        script = "";
        if (!hasForm(text)) {
            errorPosition = firstMisfit(text);
            throw new IllegalArgumentException();
        }
        State old = now;
        List<State> oldBefore = new ArrayList<>(before);
        String[] commands = text.split(";");
        for (int i = 0; i < commands.length; i++) {
            boolean failed = !runs(commands[i]);
            before.clear();
            before.addAll(oldBefore);
            if (failed) {
                now = old;
                failedCommand = i;
                throw new IllegalStateException();
            }
        }
        changed(old);
        return commands.length;
    }

    private boolean runs(String command) {
        String[] words = command.split("[ ,]");
        int[] n = new int[words.length];
        for (int i = 1; i < words.length; i++) {
            n[i] = Integer.parseInt(words[i]);
        }
        try {
            switch (words[0]) {
                case "hill" -> addHill();
                case "follow" -> follow(n[1], n[2]);
                case "melt" -> melt(n[1]);
                case "swap" -> replaceFlake(n[1], n[2], n[3]);
                case "mend" -> repair(n[1]);
                default -> {
                    for (int i = 2; i < n.length; i++) {
                        collect(n[1], n[i]);
                    }
                    write(n[1]);
                }
            }
            return true;
        } catch (RuntimeException e) {
            return false;
        }
    }

    /** A beginning can be continued if the rest of some command makes it a script. */
    private static boolean canBegin(String text) {
        for (String command : List.of("hill", "write 0,0", "follow 0 0", "melt 0", "swap 0 0 0", "mend 0")) {
            for (int i = 0; i <= command.length(); i++) {
                if (FORM.matcher(text + command.substring(i)).matches()) {
                    return true;
                }
            }
        }
        return false;
    }

    private static int firstMisfit(String text) {
        for (int i = 0; i < text.length(); i++) {
            if (!canBegin(text.substring(0, i + 1))) {
                return i;
            }
        }
        return text.length();
    }

    int errorPosition() {
        if (errorPosition == null) {
            throw new NoSuchElementException();
        }
        return errorPosition;
    }

    int failedCommand() {
        if (failedCommand == null) {
            throw new NoSuchElementException();
        }
        return failedCommand;
    }

    int undo() {
        if (before.isEmpty()) {
            throw new IllegalStateException();
        }
        now = before.pop();
        return before.size();
    }

    int save() {
        snapshot = now;
        return blockCount();
    }

    int restore() {
        if (snapshot == null) {
            throw new IllegalStateException();
        }
        now = snapshot;
        before.clear();
        return blockCount();
    }
}
