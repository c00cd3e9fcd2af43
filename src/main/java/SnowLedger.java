import java.util.Arrays;
import java.util.NoSuchElementException;

/** A ledger of snow drifts, kept as a tree of blocks that name their predecessors by hashes. */
public final class SnowLedger {
    private static final int MAX_BLOCKS = 16;
    private static final int MAX_HILLS = 4;
    private static final int MAX_FLAKES = 4;
    private static final int FLAKE_KINDS = 100;
    private static final int MAX_SCRIPT = 60;
    private static final int MAX_UNDO = 8;
    private static final int LOWEST_CODE = 32;
    private static final int HIGHEST_CODE = 126;

    /** The slot of block 0, which never moves. */
    private static final int ROOT = 0;
    private static final int ROOT_HASH = 1;
    /** Stands for a block, hill, slot or position that is not there. */
    private static final int NONE = -1;

    private static final int FLAKE_MODULUS = 997;
    private static final int HASH_MODULUS = 9973;
    private static final int HASH_STEP = 4;

    /** The kinds of change that a script's step asks for. */
    private static final int ADD_HILL = 0;
    private static final int COLLECT = 1;
    private static final int WRITE = 2;
    private static final int FOLLOW = 3;
    private static final int MELT = 4;
    private static final int REPLACE = 5;
    private static final int REPAIR = 6;

    private final State state;
    private final Survey survey;
    private final Work work;
    private final History history;
    private final State snapshot;
    private boolean snapshotTaken;
    private final State beforeScript;
    private final Script script;
    private final StringBuilder output;
    private int formError;
    private int failedAt;

    public SnowLedger() {
        state = new State();
        survey = new Survey(state);
        work = new Work(state, survey);
        history = new History();
        snapshot = new State();
        beforeScript = new State();
        script = new Script();
        output = new StringBuilder();
        formError = NONE;
        failedAt = NONE;
    }

    // Changes

    public int addHill() throws IllegalStateException {
        admit(work.refusalToRaiseHill());
        return work.raiseHill();
    }

    public int collect(int hill, int flake)
            throws IndexOutOfBoundsException, IllegalArgumentException, IllegalStateException {
        admit(work.refusalToHold(hill, flake));
        return work.hold(hill, flake);
    }

    public int write(int hill)
            throws IndexOutOfBoundsException, IllegalStateException, UnsupportedOperationException {
        admit(work.refusalToAppend(hill));
        return work.append(hill);
    }

    public int follow(int hill, int block) throws IndexOutOfBoundsException, NoSuchElementException {
        admit(work.refusalToTurn(hill, block));
        return work.turn(hill, block);
    }

    public int melt(int block) throws NoSuchElementException, IllegalArgumentException {
        admit(work.refusalToRemove(block));
        return work.remove(block);
    }

    public int replaceFlake(int block, int position, int flake)
            throws NoSuchElementException, IndexOutOfBoundsException, IllegalArgumentException {
        admit(work.refusalToSwap(block, position, flake));
        return work.swap(block, position, flake);
    }

    public int repair(int block)
            throws NoSuchElementException, IllegalArgumentException, IllegalStateException {
        admit(work.refusalToMend(block));
        return work.mend(block);
    }

    // One block

    public int blockCount() {
        return survey.countBlocks();
    }

    public boolean exists(int block) {
        return state.slotOf(block) != NONE;
    }

    public int parentOf(int block) throws NoSuchElementException {
        return state.number.at(state.parent.at(requireWritten(block)));
    }

    public int childCount(int block) throws NoSuchElementException {
        return survey.countChildren(requireBlock(block));
    }

    public int writerOf(int block) throws NoSuchElementException {
        return state.writer.at(requireWritten(block));
    }

    public int flakeCount(int block) throws NoSuchElementException {
        return state.blockFlakes.size(requireBlock(block));
    }

    public int flakeAt(int block, int position) throws NoSuchElementException, IndexOutOfBoundsException {
        int slot = requireBlock(block);
        if (!state.blockFlakes.hasPosition(slot, position)) {
            throw new IndexOutOfBoundsException("the block has no such position");
        }
        return state.blockFlakes.flake(slot, position);
    }

    public int hashOf(int block) throws NoSuchElementException {
        return state.hash.at(requireBlock(block));
    }

    public int nonceOf(int block) throws NoSuchElementException {
        return state.nonce.at(requireWritten(block));
    }

    public int rootOfFlakes(int block) throws NoSuchElementException {
        return state.blockFlakes.rootByLists(requireBlock(block));
    }

    public int rootOfFlakesByHalves(int block) throws NoSuchElementException {
        return state.blockFlakes.rootByHalves(requireBlock(block));
    }

    public int heightOf(int block) throws NoSuchElementException {
        return survey.heightByWalk(requireBlock(block));
    }

    public int heightFromRoot(int block) throws NoSuchElementException {
        return survey.heightBySearch(requireBlock(block));
    }

    // Branches

    public boolean isValid(int block) throws NoSuchElementException {
        return survey.holds(requireBlock(block));
    }

    public boolean isBranchValid(int block) throws NoSuchElementException {
        return survey.lowestBroken(requireBlock(block)) == NONE;
    }

    public int firstInvalid(int block) throws NoSuchElementException {
        int broken = survey.lowestBroken(requireBlock(block));
        if (broken == NONE) {
            throw new NoSuchElementException("the branch is valid");
        }
        return state.number.at(broken);
    }

    public boolean isInBranch(int ancestor, int block) throws NoSuchElementException {
        int below = requireBlock(ancestor);
        return survey.reaches(requireBlock(block), below);
    }

    public int forkOf(int first, int second) throws NoSuchElementException {
        int slot = requireBlock(first);
        return state.number.at(survey.fork(slot, requireBlock(second)));
    }

    public int meltSize(int block) throws NoSuchElementException {
        return survey.countReaching(requireBlock(block));
    }

    public int differentFlakes(int block) throws NoSuchElementException {
        int slot = requireBlock(block);
        return survey.countCommonFlakes(slot, slot);
    }

    public int commonFlakes(int first, int second) throws NoSuchElementException {
        int slot = requireBlock(first);
        return survey.countCommonFlakes(slot, requireBlock(second));
    }

    public int repairsNeeded(int block) throws NoSuchElementException {
        return survey.countRepairs(requireBlock(block));
    }

    // The whole tree

    public int tipCount() {
        return survey.countTips();
    }

    public int tipAtRank(int rank) throws NoSuchElementException {
        int tip = survey.tipRanked(rank);
        if (tip == NONE) {
            throw new NoSuchElementException("there is no such rank");
        }
        return state.number.at(tip);
    }

    public int bestValidBlock() {
        return state.number.at(survey.best());
    }

    public int blockWith(int flake) throws IllegalArgumentException, NoSuchElementException {
        if (!isFlake(flake)) {
            throw new IllegalArgumentException("a flake is between 0 and 99");
        }
        int slot = survey.lowestWith(flake);
        if (slot == NONE) {
            throw new NoSuchElementException("no block contains the flake");
        }
        return state.number.at(slot);
    }

    public int blocksAtHeight(int height) throws IllegalArgumentException {
        if (height < 0 || height >= MAX_BLOCKS) {
            throw new IllegalArgumentException("a height is between 0 and 15");
        }
        return survey.countAtHeight(height);
    }

    public int writtenTotal() {
        return state.written;
    }

    public int meltedTotal() {
        return state.melted;
    }

    public double meanTipHeight() {
        int tips = survey.countTips();
        return tips > 0 ? (double) survey.sumOfTipHeights() / (double) tips : 0.0;
    }

    public float validShare() {
        int blocks = survey.countBlocks();
        return blocks > 0 ? (float) survey.countHolding() / (float) blocks : 0.0f;
    }

    public boolean isConsistent() {
        return survey.waysAgree()
                && survey.hashesAreSteps()
                && state.written == state.melted + survey.countBlocks() - 1;
    }

    // Hills

    public int hillCount() {
        return state.hills;
    }

    public int followed(int hill) throws IndexOutOfBoundsException {
        requireHill(hill);
        return state.number.at(state.followed.at(hill));
    }

    public int collected(int hill) throws IndexOutOfBoundsException {
        requireHill(hill);
        return state.hillFlakes.size(hill);
    }

    public int blocksBy(int hill) throws IndexOutOfBoundsException {
        requireHill(hill);
        return survey.countWrittenBy(hill);
    }

    public int nextHash(int hill) throws IndexOutOfBoundsException {
        requireHill(hill);
        int parentHash = state.hash.at(state.followed.at(hill));
        return sealedHash(parentHash, state.hillFlakes.rootByLists(hill), hill);
    }

    // Output

    public int renderBlock(int block) throws NoSuchElementException {
        int slot = requireBlock(block);
        output.setLength(0);
        output.append(block).append('#').append(state.hash.at(slot));
        if (slot != ROOT) {
            output.append('<').append(state.number.at(state.parent.at(slot)));
            output.append('h').append(state.writer.at(slot));
        }
        int flakes = state.blockFlakes.size(slot);
        for (int position = 0; position < flakes; position++) {
            output.append(',').append(state.blockFlakes.flake(slot, position));
        }
        if (!survey.holds(slot)) {
            output.append('!');
        }
        return output.length();
    }

    public int renderBranch(int block) throws NoSuchElementException {
        int slot = requireBlock(block);
        output.setLength(0);
        for (int at = slot, steps = 0; at != NONE && steps < MAX_BLOCKS; at = state.parent.at(at), steps++) {
            if (steps > 0) {
                output.append('-');
            }
            output.append(state.number.at(at));
        }
        return output.length();
    }

    public char outputAt(int index) throws IndexOutOfBoundsException {
        if (index < 0 || index >= output.length()) {
            throw new IndexOutOfBoundsException("the output text has no such index");
        }
        return output.charAt(index);
    }

    // Scripts

    public int type(char character) throws IllegalArgumentException, IllegalStateException {
        if (character < LOWEST_CODE || character > HIGHEST_CODE) {
            throw new IllegalArgumentException("a character code is between 32 and 126");
        }
        if (script.length() >= MAX_SCRIPT) {
            throw new IllegalStateException("the script buffer is full");
        }
        return script.append(character);
    }

    public int runScript() throws IllegalArgumentException, IllegalStateException {
        boolean formed = script.parse();
        script.empty();
        if (!formed) {
            formError = script.stoppedAt;
            throw new IllegalArgumentException("the script does not have the required form");
        }
        beforeScript.copyFrom(state);
        for (int step = 0; step < script.steps; step++) {
            int kind = script.kind.at(step);
            int first = script.first.at(step);
            int second = script.second.at(step);
            int third = script.third.at(step);
            if (work.refusalOf(kind, first, second, third) != Refusal.NOTHING) {
                failedAt = script.command.at(step);
                state.copyFrom(beforeScript);
                throw new IllegalStateException("a command of the script failed");
            }
            work.carryOut(kind, first, second, third);
        }
        history.keep(beforeScript);
        return script.commands;
    }

    public int errorPosition() throws NoSuchElementException {
        if (formError == NONE) {
            throw new NoSuchElementException("no script lacked the required form");
        }
        return formError;
    }

    public int failedCommand() throws NoSuchElementException {
        if (failedAt == NONE) {
            throw new NoSuchElementException("no script had a failed command");
        }
        return failedAt;
    }

    // Undo and the snapshot

    public int undo() throws IllegalStateException {
        if (history.size == 0) {
            throw new IllegalStateException("there is nothing to undo");
        }
        history.takeBack(state);
        return history.size;
    }

    public int save() {
        snapshot.copyFrom(state);
        snapshotTaken = true;
        return survey.countBlocks();
    }

    public int restore() throws IllegalStateException {
        if (!snapshotTaken) {
            throw new IllegalStateException("there is no snapshot");
        }
        state.copyFrom(snapshot);
        history.forget();
        return survey.countBlocks();
    }

    // Helpers of the face

    private void admit(Refusal refusal) {
        throwFor(refusal);
        history.keep(state);
    }

    private static void throwFor(Refusal refusal) {
        if (refusal == Refusal.INDEX) {
            throw new IndexOutOfBoundsException("there is no such hill or position");
        }
        if (refusal == Refusal.ELEMENT) {
            throw new NoSuchElementException("there is no such block in the tree");
        }
        if (refusal == Refusal.ARGUMENT) {
            throw new IllegalArgumentException("the flake is out of range, or the block is the root");
        }
        if (refusal == Refusal.STATE) {
            throw new IllegalStateException("there is no room for more, or nothing to repair");
        }
        if (refusal == Refusal.OPERATION) {
            throw new UnsupportedOperationException("the followed branch is not valid");
        }
    }

    private int requireBlock(int block) {
        int slot = state.slotOf(block);
        if (slot == NONE) {
            throw new NoSuchElementException("there is no such block in the tree");
        }
        return slot;
    }

    private int requireWritten(int block) {
        int slot = state.slotOf(block);
        if (slot == NONE || slot == ROOT) {
            throw new NoSuchElementException("there is no such block besides the root");
        }
        return slot;
    }

    private void requireHill(int hill) {
        if (!state.hasHill(hill)) {
            throw new IndexOutOfBoundsException("there is no such hill");
        }
    }

    // Arithmetic of flakes and hashes

    private static boolean isFlake(int flake) {
        return flake >= 0 && flake < FLAKE_KINDS;
    }

    private static int combine(int left, int right) {
        return (31 * left + 17 * right + 7) % FLAKE_MODULUS;
    }

    private static int hashWith(int parentHash, int flakeRoot, int writer, int nonce) {
        return (61 * parentHash + 29 * flakeRoot + 13 * writer + nonce) % HASH_MODULUS;
    }

    private static int leastNonce(int parentHash, int flakeRoot, int writer) {
        for (int nonce = 0; nonce < HASH_MODULUS; nonce++) {
            if (hashWith(parentHash, flakeRoot, writer, nonce) % HASH_STEP == 0) {
                return nonce;
            }
        }
        return 0;
    }

    private static int sealedHash(int parentHash, int flakeRoot, int writer) {
        return hashWith(parentHash, flakeRoot, writer, leastNonce(parentHash, flakeRoot, writer));
    }

    /** Which exception a change has to answer with. Scripts need to know it without one being thrown. */
    private enum Refusal { NOTHING, INDEX, ELEMENT, ARGUMENT, STATE, OPERATION }

    /** A row of numbers whose every index is tested here, so that no use of a row can go astray. */
    private static final class Row {
        private final int[] cells;

        Row(int length, int content) {
            cells = new int[length > 0 ? length : 0];
            Arrays.fill(cells, content);
        }

        int at(int index) {
            return index >= 0 && index < cells.length ? cells[index] : NONE;
        }

        void put(int index, int value) {
            if (index >= 0 && index < cells.length) {
                cells[index] = value;
            }
        }

        void fill(int value) {
            Arrays.fill(cells, value);
        }

        void copyFrom(Row other) {
            System.arraycopy(other.cells, 0, cells, 0, Math.min(cells.length, other.cells.length));
        }
    }

    /** Short lists of flakes, one for each owner: a slot of a block, or a hill. */
    private static final class FlakeTable {
        private final Row sizes;
        private final Row flakes;
        /** The list that shrinks while a root is computed; kept to make no new one for each root. */
        private final Row list;

        FlakeTable(int owners) {
            sizes = new Row(owners, 0);
            flakes = new Row(owners * MAX_FLAKES, 0);
            list = new Row(MAX_FLAKES, 0);
        }

        int size(int owner) {
            return sizes.at(owner);
        }

        boolean hasPosition(int owner, int position) {
            return position >= 0 && position < sizes.at(owner);
        }

        int flake(int owner, int position) {
            return flakes.at(owner * MAX_FLAKES + position);
        }

        boolean contains(int owner, int flake) {
            int size = sizes.at(owner);
            for (int position = 0; position < size; position++) {
                if (flakes.at(owner * MAX_FLAKES + position) == flake) {
                    return true;
                }
            }
            return false;
        }

        void replace(int owner, int position, int flake) {
            flakes.put(owner * MAX_FLAKES + position, flake);
        }

        void add(int owner, int flake) {
            int size = sizes.at(owner);
            flakes.put(owner * MAX_FLAKES + size, flake);
            sizes.put(owner, size + 1);
        }

        void clear(int owner) {
            sizes.put(owner, 0);
        }

        void takeList(int owner, FlakeTable source, int sourceOwner) {
            int size = source.sizes.at(sourceOwner);
            for (int position = 0; position < size; position++) {
                flakes.put(owner * MAX_FLAKES + position, source.flakes.at(sourceOwner * MAX_FLAKES + position));
            }
            sizes.put(owner, size);
        }

        void copyFrom(FlakeTable other) {
            sizes.copyFrom(other.sizes);
            flakes.copyFrom(other.flakes);
        }

        int rootByLists(int owner) {
            int size = sizes.at(owner);
            if (size <= 0) {
                return 0;
            }
            for (int position = 0; position < size; position++) {
                list.put(position, flakes.at(owner * MAX_FLAKES + position));
            }
            for (int round = 0; round < MAX_FLAKES && size > 1; round++) {
                int pairs = (size + 1) / 2;
                for (int pair = 0; pair < pairs; pair++) {
                    int left = list.at(2 * pair);
                    int right = 2 * pair + 1 < size ? list.at(2 * pair + 1) : left;
                    list.put(pair, combine(left, right));
                }
                size = pairs;
            }
            return list.at(0);
        }

        int rootByHalves(int owner) {
            int size = sizes.at(owner);
            if (size <= 0) {
                return 0;
            }
            int width = 1;
            for (int round = 0; round < MAX_FLAKES && width < size; round++) {
                width *= 2;
            }
            int from = owner * MAX_FLAKES;
            return rootOfHalf(flakes, from, from + size, width);
        }

        /** The half that starts at from is as wide as a power of two, and may reach beyond the list's end. */
        private static int rootOfHalf(Row flakes, int from, int end, int width) {
            if (width <= 1) {
                return flakes.at(from);
            }
            int half = width / 2;
            int left = rootOfHalf(flakes, from, end, half);
            int right = from + half < end ? rootOfHalf(flakes, from + half, end, half) : left;
            return combine(left, right);
        }
    }

    /**
     * All that undo and the snapshot cover. A block lives in one of 16 slots as long as it is in the tree, and parents
     * and followed blocks are named by their slots, because numbers grow beyond every row.
     */
    private static final class State {
        private final Row number;
        private final Row parent;
        private final Row writer;
        private final Row hash;
        private final Row nonce;
        private final FlakeTable blockFlakes;
        private final Row followed;
        private final FlakeTable hillFlakes;
        private int hills;
        private int nextNumber;
        private int written;
        private int melted;

        State() {
            number = new Row(MAX_BLOCKS, NONE);
            parent = new Row(MAX_BLOCKS, NONE);
            writer = new Row(MAX_BLOCKS, NONE);
            hash = new Row(MAX_BLOCKS, 0);
            nonce = new Row(MAX_BLOCKS, 0);
            blockFlakes = new FlakeTable(MAX_BLOCKS);
            followed = new Row(MAX_HILLS, ROOT);
            hillFlakes = new FlakeTable(MAX_HILLS);
            number.put(ROOT, 0);
            hash.put(ROOT, ROOT_HASH);
            nextNumber = 1;
        }

        void copyFrom(State other) {
            number.copyFrom(other.number);
            parent.copyFrom(other.parent);
            writer.copyFrom(other.writer);
            hash.copyFrom(other.hash);
            nonce.copyFrom(other.nonce);
            blockFlakes.copyFrom(other.blockFlakes);
            followed.copyFrom(other.followed);
            hillFlakes.copyFrom(other.hillFlakes);
            hills = other.hills;
            nextNumber = other.nextNumber;
            written = other.written;
            melted = other.melted;
        }

        boolean hasHill(int hill) {
            return hill >= 0 && hill < hills;
        }

        boolean isUsed(int slot) {
            return number.at(slot) != NONE;
        }

        /** A negative number is no block's, though free slots bear one. */
        int slotOf(int block) {
            for (int slot = 0; slot < MAX_BLOCKS; slot++) {
                if (block >= 0 && number.at(slot) == block) {
                    return slot;
                }
            }
            return NONE;
        }

        int freeSlot() {
            for (int slot = 0; slot < MAX_BLOCKS; slot++) {
                if (!isUsed(slot)) {
                    return slot;
                }
            }
            return NONE;
        }

        /** Without a parent, a free slot is in no branch and nobody's child. */
        void free(int slot) {
            number.put(slot, NONE);
            parent.put(slot, NONE);
            writer.put(slot, NONE);
        }
    }

    /** What can be learned of a state without changing it. */
    private static final class Survey {
        private final State state;
        /** Which branches a flake occurs in: 1 stands for the first one, 2 for the second. */
        private final Row marks;

        Survey(State state) {
            this.state = state;
            marks = new Row(FLAKE_KINDS, 0);
        }

        int countBlocks() {
            int blocks = 0;
            for (int slot = 0; slot < MAX_BLOCKS; slot++) {
                if (state.isUsed(slot)) {
                    blocks++;
                }
            }
            return blocks;
        }

        int countChildren(int slot) {
            int children = 0;
            for (int other = 0; other < MAX_BLOCKS; other++) {
                if (state.parent.at(other) == slot) {
                    children++;
                }
            }
            return children;
        }

        int countWrittenBy(int hill) {
            int blocks = 0;
            for (int slot = 0; slot < MAX_BLOCKS; slot++) {
                if (state.writer.at(slot) == hill) {
                    blocks++;
                }
            }
            return blocks;
        }

        // Heights

        int heightByWalk(int slot) {
            int height = 0;
            for (int at = state.parent.at(slot); at != NONE && height < MAX_BLOCKS; at = state.parent.at(at)) {
                height++;
            }
            return height;
        }

        int heightBySearch(int slot) {
            return depthBelow(state.parent, ROOT, slot, 0);
        }

        private static int depthBelow(Row parent, int from, int target, int depth) {
            if (from == target) {
                return depth;
            }
            if (depth >= MAX_BLOCKS) {
                return NONE;
            }
            for (int slot = 0; slot < MAX_BLOCKS; slot++) {
                if (parent.at(slot) == from) {
                    int found = depthBelow(parent, slot, target, depth + 1);
                    if (found != NONE) {
                        return found;
                    }
                }
            }
            return NONE;
        }

        int countAtHeight(int height) {
            int blocks = 0;
            for (int slot = 0; slot < MAX_BLOCKS; slot++) {
                if (state.isUsed(slot) && heightByWalk(slot) == height) {
                    blocks++;
                }
            }
            return blocks;
        }

        // Validity

        boolean holds(int slot) {
            if (slot == ROOT) {
                return true;
            }
            int parentHash = state.hash.at(state.parent.at(slot));
            int flakeRoot = state.blockFlakes.rootByLists(slot);
            return state.hash.at(slot)
                    == hashWith(parentHash, flakeRoot, state.writer.at(slot), state.nonce.at(slot));
        }

        int countHolding() {
            int blocks = 0;
            for (int slot = 0; slot < MAX_BLOCKS; slot++) {
                if (state.isUsed(slot) && holds(slot)) {
                    blocks++;
                }
            }
            return blocks;
        }

        int lowestBroken(int slot) {
            int broken = NONE;
            for (int at = slot, steps = 0; at != NONE && steps < MAX_BLOCKS; at = state.parent.at(at), steps++) {
                if (!holds(at)) {
                    broken = at;
                }
            }
            return broken;
        }

        int countRepairs(int slot) {
            int height = heightByWalk(slot);
            int parentHash = state.hash.at(ROOT);
            int repairs = 0;
            for (int level = 1; level <= height; level++) {
                int at = ancestor(slot, height - level);
                int flakeRoot = state.blockFlakes.rootByLists(at);
                int writer = state.writer.at(at);
                int hash = state.hash.at(at);
                if (hash != hashWith(parentHash, flakeRoot, writer, state.nonce.at(at))) {
                    hash = sealedHash(parentHash, flakeRoot, writer);
                    repairs++;
                }
                parentHash = hash;
            }
            return repairs;
        }

        private int ancestor(int slot, int steps) {
            int at = slot;
            for (int step = 0; step < steps; step++) {
                at = state.parent.at(at);
            }
            return at;
        }

        // Branches

        boolean reaches(int slot, int ancestor) {
            for (int at = slot, steps = 0; at != NONE && steps < MAX_BLOCKS; at = state.parent.at(at), steps++) {
                if (at == ancestor) {
                    return true;
                }
            }
            return false;
        }

        int countReaching(int ancestor) {
            int blocks = 0;
            for (int slot = 0; slot < MAX_BLOCKS; slot++) {
                if (reaches(slot, ancestor)) {
                    blocks++;
                }
            }
            return blocks;
        }

        int fork(int first, int second) {
            for (int at = first, steps = 0; at != NONE && steps < MAX_BLOCKS; at = state.parent.at(at), steps++) {
                if (reaches(second, at)) {
                    return at;
                }
            }
            return ROOT;
        }

        int countCommonFlakes(int first, int second) {
            marks.fill(0);
            markFlakes(first, 1);
            markFlakes(second, 2);
            int common = 0;
            for (int flake = 0; flake < FLAKE_KINDS; flake++) {
                if (marks.at(flake) == 3) {
                    common++;
                }
            }
            return common;
        }

        private void markFlakes(int slot, int mark) {
            for (int at = slot, steps = 0; at != NONE && steps < MAX_BLOCKS; at = state.parent.at(at), steps++) {
                int size = state.blockFlakes.size(at);
                for (int position = 0; position < size; position++) {
                    int flake = state.blockFlakes.flake(at, position);
                    marks.put(flake, marks.at(flake) | mark);
                }
            }
        }

        int lowestWith(int flake) {
            int lowest = NONE;
            for (int slot = 0; slot < MAX_BLOCKS; slot++) {
                if (state.isUsed(slot) && state.blockFlakes.contains(slot, flake)
                        && (lowest == NONE || isLower(slot, lowest))) {
                    lowest = slot;
                }
            }
            return lowest;
        }

        private boolean isLower(int slot, int other) {
            int height = heightByWalk(slot);
            int otherHeight = heightByWalk(other);
            if (height != otherHeight) {
                return height < otherHeight;
            }
            return state.number.at(slot) < state.number.at(other);
        }

        // Ranks

        boolean isTip(int slot) {
            return state.isUsed(slot) && countChildren(slot) == 0;
        }

        int countTips() {
            int tips = 0;
            for (int slot = 0; slot < MAX_BLOCKS; slot++) {
                if (isTip(slot)) {
                    tips++;
                }
            }
            return tips;
        }

        int sumOfTipHeights() {
            int sum = 0;
            for (int slot = 0; slot < MAX_BLOCKS; slot++) {
                if (isTip(slot)) {
                    sum += heightByWalk(slot);
                }
            }
            return sum;
        }

        int tipRanked(int rank) {
            for (int slot = 0; slot < MAX_BLOCKS; slot++) {
                if (isTip(slot) && countTipsBefore(slot) == rank) {
                    return slot;
                }
            }
            return NONE;
        }

        private int countTipsBefore(int tip) {
            int before = 0;
            for (int slot = 0; slot < MAX_BLOCKS; slot++) {
                if (isTip(slot) && ranksBefore(slot, tip)) {
                    before++;
                }
            }
            return before;
        }

        private boolean ranksBefore(int slot, int other) {
            int height = heightByWalk(slot);
            int otherHeight = heightByWalk(other);
            if (height != otherHeight) {
                return height > otherHeight;
            }
            if (state.hash.at(slot) != state.hash.at(other)) {
                return state.hash.at(slot) < state.hash.at(other);
            }
            return state.number.at(slot) < state.number.at(other);
        }

        int best() {
            int best = ROOT;
            for (int slot = 0; slot < MAX_BLOCKS; slot++) {
                if (state.isUsed(slot) && ranksBefore(slot, best) && lowestBroken(slot) == NONE) {
                    best = slot;
                }
            }
            return best;
        }

        // Consistency

        boolean waysAgree() {
            for (int slot = 0; slot < MAX_BLOCKS; slot++) {
                if (state.isUsed(slot)
                        && (heightByWalk(slot) != heightBySearch(slot)
                        || state.blockFlakes.rootByLists(slot) != state.blockFlakes.rootByHalves(slot))) {
                    return false;
                }
            }
            return true;
        }

        boolean hashesAreSteps() {
            for (int slot = 0; slot < MAX_BLOCKS; slot++) {
                if (slot != ROOT && state.isUsed(slot) && state.hash.at(slot) % HASH_STEP != 0) {
                    return false;
                }
            }
            return true;
        }
    }

    /** The changes themselves: whether one must be refused, and how it is carried out if not. */
    private static final class Work {
        private final State state;
        private final Survey survey;
        private final Row doomed;

        Work(State state, Survey survey) {
            this.state = state;
            this.survey = survey;
            doomed = new Row(MAX_BLOCKS, 0);
        }

        Refusal refusalOf(int kind, int first, int second, int third) {
            switch (kind) {
                case ADD_HILL:
                    return refusalToRaiseHill();
                case COLLECT:
                    return refusalToHold(first, second);
                case WRITE:
                    return refusalToAppend(first);
                case FOLLOW:
                    return refusalToTurn(first, second);
                case MELT:
                    return refusalToRemove(first);
                case REPLACE:
                    return refusalToSwap(first, second, third);
                default:
                    return refusalToMend(first);
            }
        }

        int carryOut(int kind, int first, int second, int third) {
            switch (kind) {
                case ADD_HILL:
                    return raiseHill();
                case COLLECT:
                    return hold(first, second);
                case WRITE:
                    return append(first);
                case FOLLOW:
                    return turn(first, second);
                case MELT:
                    return remove(first);
                case REPLACE:
                    return swap(first, second, third);
                default:
                    return mend(first);
            }
        }

        Refusal refusalToRaiseHill() {
            return state.hills < MAX_HILLS ? Refusal.NOTHING : Refusal.STATE;
        }

        int raiseHill() {
            int hill = state.hills;
            state.followed.put(hill, ROOT);
            state.hillFlakes.clear(hill);
            state.hills++;
            return hill;
        }

        Refusal refusalToHold(int hill, int flake) {
            if (!state.hasHill(hill)) {
                return Refusal.INDEX;
            }
            if (!isFlake(flake)) {
                return Refusal.ARGUMENT;
            }
            return state.hillFlakes.size(hill) < MAX_FLAKES ? Refusal.NOTHING : Refusal.STATE;
        }

        int hold(int hill, int flake) {
            state.hillFlakes.add(hill, flake);
            return state.hillFlakes.size(hill);
        }

        Refusal refusalToAppend(int hill) {
            if (!state.hasHill(hill)) {
                return Refusal.INDEX;
            }
            if (state.freeSlot() == NONE) {
                return Refusal.STATE;
            }
            return survey.lowestBroken(state.followed.at(hill)) == NONE ? Refusal.NOTHING : Refusal.OPERATION;
        }

        int append(int hill) {
            int slot = state.freeSlot();
            int number = state.nextNumber;
            state.number.put(slot, number);
            state.parent.put(slot, state.followed.at(hill));
            state.writer.put(slot, hill);
            state.blockFlakes.takeList(slot, state.hillFlakes, hill);
            seal(slot);
            state.hillFlakes.clear(hill);
            state.followed.put(hill, slot);
            state.nextNumber++;
            state.written++;
            return number;
        }

        private void seal(int slot) {
            int parentHash = state.hash.at(state.parent.at(slot));
            int flakeRoot = state.blockFlakes.rootByLists(slot);
            int nonce = leastNonce(parentHash, flakeRoot, state.writer.at(slot));
            state.nonce.put(slot, nonce);
            state.hash.put(slot, hashWith(parentHash, flakeRoot, state.writer.at(slot), nonce));
        }

        Refusal refusalToTurn(int hill, int block) {
            if (!state.hasHill(hill)) {
                return Refusal.INDEX;
            }
            return state.slotOf(block) == NONE ? Refusal.ELEMENT : Refusal.NOTHING;
        }

        int turn(int hill, int block) {
            int before = state.number.at(state.followed.at(hill));
            state.followed.put(hill, state.slotOf(block));
            return before;
        }

        Refusal refusalToRemove(int block) {
            int slot = state.slotOf(block);
            if (slot == NONE) {
                return Refusal.ELEMENT;
            }
            return slot == ROOT ? Refusal.ARGUMENT : Refusal.NOTHING;
        }

        int remove(int block) {
            int melting = state.slotOf(block);
            int parent = state.parent.at(melting);
            // All are marked before one is freed: a freed block leads no longer to the one that melts.
            for (int slot = 0; slot < MAX_BLOCKS; slot++) {
                doomed.put(slot, survey.reaches(slot, melting) ? 1 : 0);
            }
            for (int hill = 0; hill < state.hills; hill++) {
                if (doomed.at(state.followed.at(hill)) == 1) {
                    state.followed.put(hill, parent);
                }
            }
            int removed = 0;
            for (int slot = 0; slot < MAX_BLOCKS; slot++) {
                if (doomed.at(slot) == 1) {
                    state.free(slot);
                    removed++;
                }
            }
            state.melted += removed;
            return removed;
        }

        Refusal refusalToSwap(int block, int position, int flake) {
            int slot = state.slotOf(block);
            if (slot == NONE) {
                return Refusal.ELEMENT;
            }
            if (!state.blockFlakes.hasPosition(slot, position)) {
                return Refusal.INDEX;
            }
            return isFlake(flake) ? Refusal.NOTHING : Refusal.ARGUMENT;
        }

        int swap(int block, int position, int flake) {
            int slot = state.slotOf(block);
            int before = state.blockFlakes.flake(slot, position);
            state.blockFlakes.replace(slot, position, flake);
            return before;
        }

        Refusal refusalToMend(int block) {
            Refusal refusal = refusalToRemove(block);
            if (refusal != Refusal.NOTHING) {
                return refusal;
            }
            return survey.holds(state.slotOf(block)) ? Refusal.STATE : Refusal.NOTHING;
        }

        int mend(int block) {
            int slot = state.slotOf(block);
            seal(slot);
            return state.hash.at(slot);
        }
    }

    /** The states before the latest changes, in a ring. */
    private static final class History {
        private final State[] ring;
        private int next;
        private int size;

        History() {
            ring = new State[MAX_UNDO];
            for (int index = 0; index < ring.length; index++) {
                ring[index] = new State();
            }
        }

        void keep(State before) {
            if (next >= 0 && next < ring.length && ring[next] != null) {
                ring[next].copyFrom(before);
            }
            next = (next + 1) % MAX_UNDO;
            size = Math.min(size + 1, MAX_UNDO);
        }

        void takeBack(State state) {
            next = (next + MAX_UNDO - 1) % MAX_UNDO;
            if (next >= 0 && next < ring.length && ring[next] != null) {
                state.copyFrom(ring[next]);
            }
            size--;
        }

        void forget() {
            size = 0;
        }
    }

    /**
     * The script buffer, and the steps that its text stands for. A command "write" is several steps; each step tells
     * the command that it belongs to. A reader that finds no fitting character stays before it.
     */
    private static final class Script {
        private final StringBuilder text;
        private final Row kind;
        private final Row first;
        private final Row second;
        private final Row third;
        private final Row command;
        private int steps;
        private int commands;
        private int stoppedAt;

        Script() {
            text = new StringBuilder();
            kind = new Row(MAX_SCRIPT, 0);
            first = new Row(MAX_SCRIPT, 0);
            second = new Row(MAX_SCRIPT, 0);
            third = new Row(MAX_SCRIPT, 0);
            command = new Row(MAX_SCRIPT, 0);
        }

        int length() {
            return text.length();
        }

        int append(char character) {
            text.append(character);
            return text.length();
        }

        void empty() {
            text.setLength(0);
        }

        boolean parse() {
            stoppedAt = 0;
            steps = 0;
            commands = 0;
            for (int round = 0; round < MAX_SCRIPT; round++) {
                if (!readCommand()) {
                    return false;
                }
                commands++;
                if (!readSign(';')) {
                    return stoppedAt == text.length();
                }
            }
            return false;
        }

        private boolean readCommand() {
            switch (sign()) {
                case 'h':
                    return readWord("hill") && addStep(ADD_HILL, 0, 0, 0);
                case 'w':
                    return readWord("write ") && readWriting();
                case 'f':
                    return readWord("follow ") && readFollowing();
                case 's':
                    return readWord("swap ") && readSwapping();
                case 'm':
                    return readWord("me") && readMeltingOrMending();
                default:
                    return false;
            }
        }

        private boolean readWriting() {
            int hill = readDigit();
            if (hill == NONE) {
                return false;
            }
            for (int round = 0; round < MAX_SCRIPT && readSign(','); round++) {
                int flake = readNumber();
                if (flake == NONE) {
                    return false;
                }
                addStep(COLLECT, hill, flake, 0);
            }
            return addStep(WRITE, hill, 0, 0);
        }

        private boolean readFollowing() {
            int hill = readDigit();
            if (hill == NONE || !readSign(' ')) {
                return false;
            }
            int block = readNumber();
            return block != NONE && addStep(FOLLOW, hill, block, 0);
        }

        private boolean readSwapping() {
            int block = readNumber();
            if (block == NONE || !readSign(' ')) {
                return false;
            }
            int position = readDigit();
            if (position == NONE || !readSign(' ')) {
                return false;
            }
            int flake = readNumber();
            return flake != NONE && addStep(REPLACE, block, position, flake);
        }

        private boolean readMeltingOrMending() {
            boolean melting = sign() == 'l';
            if (!readWord(melting ? "lt " : "nd ")) {
                return false;
            }
            int block = readNumber();
            return block != NONE && addStep(melting ? MELT : REPAIR, block, 0, 0);
        }

        private boolean addStep(int kindOfStep, int firstNumber, int secondNumber, int thirdNumber) {
            kind.put(steps, kindOfStep);
            first.put(steps, firstNumber);
            second.put(steps, secondNumber);
            third.put(steps, thirdNumber);
            command.put(steps, commands);
            steps++;
            return true;
        }

        private int readNumber() {
            int tens = readDigit();
            if (tens == NONE) {
                return NONE;
            }
            int ones = readDigit();
            return ones == NONE ? tens : 10 * tens + ones;
        }

        private int readDigit() {
            int sign = sign();
            if (sign < '0' || sign > '9') {
                return NONE;
            }
            stoppedAt++;
            return sign - '0';
        }

        private boolean readWord(String word) {
            for (int index = 0; index < word.length(); index++) {
                if (!readSign(word.charAt(index))) {
                    return false;
                }
            }
            return true;
        }

        private boolean readSign(char expected) {
            if (sign() != expected) {
                return false;
            }
            stoppedAt++;
            return true;
        }

        private int sign() {
            return stoppedAt >= 0 && stoppedAt < text.length() ? text.charAt(stoppedAt) : NONE;
        }
    }
}
