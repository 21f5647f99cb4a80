import java.util.ArrayDeque;
import java.util.ArrayList;
import java.util.Deque;
import java.util.List;

/**
 * The document once more, in another form: lists that are copied whole, and a text that is read
 * sign by sign by a machine with states. ModelTest compares the program with it.
 */
final class Model {
    static final int INVALID = -100000001;
    static final int ILLEGAL = -100000002;
    static final int FULL = -100000003;
    static final int NONE = -100000009;

    static final class Layer {
        final int kind;
        final int density;
        long thickness;

        Layer(int kind, int density, long thickness) {
            this.kind = kind;
            this.density = density;
            this.thickness = thickness;
        }
    }

    static final class Block {
        final List<Layer> layers = new ArrayList<>();
        long base;

        Block copy() {
            Block made = new Block();
            for (Layer layer : layers) {
                made.layers.add(new Layer(layer.kind, layer.density, layer.thickness));
            }
            made.base = base;
            return made;
        }

        long weight() {
            return layers.stream().mapToLong(layer -> layer.density * layer.thickness).sum();
        }

        long thickness() {
            return layers.stream().mapToLong(layer -> layer.thickness).sum();
        }

        long balance() {
            return Math.floorDiv(weight(), 33L);
        }

        long top() {
            return thickness() - base;
        }

        boolean iceOnTop() {
            return !layers.isEmpty() && layers.get(0).kind == 0;
        }

        void drift(long rate) {
            long gap = balance() - base;
            if (gap != 0) {
                long move = gap * rate / 100;
                base += move != 0 ? move : gap > 0 ? 1 : -1;
            }
        }
    }

    static final class World {
        List<Block> blocks = new ArrayList<>();
        List<List<Block>> places = new ArrayList<>();
        long[] settings = {2000, 100, 100, 50, 40};
        long[] accounts = new long[6];
        int steps;

        World copy() {
            World made = new World();
            made.blocks = copyOf(blocks);
            for (List<Block> place : places) {
                made.places.add(place == null ? null : copyOf(place));
            }
            made.settings = settings.clone();
            made.accounts = accounts.clone();
            made.steps = steps;
            return made;
        }
    }

    static List<Block> copyOf(List<Block> blocks) {
        List<Block> made = new ArrayList<>();
        for (Block block : blocks) {
            made.add(block.copy());
        }
        return made;
    }

    World world = new World();
    final Deque<World> history = new ArrayDeque<>();
    final StringBuilder text = new StringBuilder();

    Model() {
        for (int n = 0; n < 10; n++) {
            world.blocks.add(new Block());
        }
        world.places.add(null);
        world.places.add(null);
    }

    private void action() {
        history.addLast(world.copy());
        if (history.size() > 5) {
            history.removeFirst();
        }
    }

    private static boolean in(long value, long from, long to) {
        return from <= value && value <= to;
    }

    int addLayer(int block, int layer, int kind, int density, int thickness) {
        if (!in(block, 0, 9) || !in(layer, 0, world.blocks.get(block).layers.size()) || !in(kind, 0, 2)
                || kind == 0 && density != 9 || kind == 1 && density != 22 || kind == 2 && !in(density, 24, 32)
                || !in(thickness, 1, 9999)) {
            return INVALID;
        }
        if (world.blocks.get(block).layers.size() == 8) {
            return FULL;
        }
        action();
        world.blocks.get(block).layers.add(layer, new Layer(kind, density, thickness));
        world.accounts[0] += density * thickness;
        return world.blocks.get(block).layers.size();
    }

    int removeLayer(int block, int layer) {
        if (!in(block, 0, 9) || !in(layer, 0, world.blocks.get(block).layers.size() - 1)) {
            return INVALID;
        }
        action();
        Layer gone = world.blocks.get(block).layers.remove(layer);
        world.accounts[1] += gone.density * gone.thickness;
        return (int) gone.thickness;
    }

    int strip(int kind) {
        if (!in(kind, 0, 2)) {
            return INVALID;
        }
        action();
        int removed = 0;
        for (Block block : world.blocks) {
            for (Layer layer : new ArrayList<>(block.layers)) {
                if (layer.kind == kind) {
                    block.layers.remove(layer);
                    world.accounts[1] += layer.density * layer.thickness;
                    removed++;
                }
            }
        }
        return removed;
    }

    int settle() {
        action();
        int changed = 0;
        for (Block block : world.blocks) {
            changed += block.base == block.balance() ? 0 : 1;
            block.base = block.balance();
        }
        return changed;
    }

    int set(int what, int value) {
        int[][] ranges = {{-5000, 9999}, {0, 500}, {0, 500}, {0, 200}, {1, 100}};
        if (!in(what, 0, 4) || !in(value, ranges[what][0], ranges[what][1])) {
            return INVALID;
        }
        action();
        long previous = world.settings[what];
        world.settings[what] = value;
        return (int) previous;
    }

    int run(int steps) {
        if (!in(steps, 1, 50)) {
            return INVALID;
        }
        if (world.steps + steps > 1000) {
            return FULL;
        }
        action();
        for (int n = 0; n < steps; n++) {
            step(world);
        }
        world.steps += steps;
        return world.steps;
    }

    private static int valleyOf(World world, int block) {
        int found = -1;
        for (int other = block - 1; other <= block + 1; other += 2) {
            if (in(other, 0, 9) && world.blocks.get(other).top() < world.blocks.get(block).top()
                    && (found < 0 || world.blocks.get(other).top() < world.blocks.get(found).top())) {
                found = other;
            }
        }
        return found;
    }

    /** What is to be done by erosion: from which layer of which block, to which valley, how much. */
    private static final class Task {
        Block from;
        Layer layer;
        Block valley;
        long taken;
    }

    private static Task taskOf(World world, int number) {
        Block block = world.blocks.get(number);
        int valley = valleyOf(world, number);
        if (block.layers.isEmpty() || block.iceOnTop() || valley < 0) {
            return null;
        }
        Task task = new Task();
        task.from = block;
        task.layer = block.layers.get(0);
        task.valley = world.blocks.get(valley);
        long fall = block.top() - task.valley.top();
        task.taken = Math.min(Math.floorDiv(fall * world.settings[3], 1000L), task.layer.thickness);
        return task;
    }

    private static void step(World world) {
        for (Block block : world.blocks) {
            ice(world, block);
        }
        List<Task> tasks = new ArrayList<>();
        for (int block = 0; block < 10; block++) {
            Task task = taskOf(world, block);
            if (task != null) {
                tasks.add(task);
            }
        }
        for (Task task : tasks) {
            task.layer.thickness -= task.taken;
            if (task.layer.thickness == 0) {
                task.from.layers.remove(task.layer);
            }
            world.accounts[4] += task.taken * task.layer.density;
            long laid = lay(task.valley, Math.floorDiv(task.taken * task.layer.density, 22L));
            world.accounts[5] += laid * 22;
        }
        for (Block block : world.blocks) {
            block.drift(world.settings[4]);
        }
    }

    private static void ice(World world, Block block) {
        if (block.layers.isEmpty()) {
            return;
        }
        boolean above = block.top() > world.settings[0];
        if (above && block.iceOnTop()) {
            block.layers.get(0).thickness += world.settings[1];
            world.accounts[2] += world.settings[1] * 9;
        } else if (above && block.layers.size() < 8 && world.settings[1] > 0) {
            block.layers.add(0, new Layer(0, 9, world.settings[1]));
            world.accounts[2] += world.settings[1] * 9;
        } else if (!above && block.iceOnTop()) {
            Layer ice = block.layers.get(0);
            if (ice.thickness <= world.settings[2]) {
                block.layers.remove(0);
                world.accounts[3] += ice.thickness * 9;
            } else {
                ice.thickness -= world.settings[2];
                world.accounts[3] += world.settings[2] * 9;
            }
        }
    }

    private static long lay(Block valley, long thickness) {
        Layer ground = valley.layers.stream().filter(layer -> layer.kind != 0).findFirst().orElse(null);
        if (ground != null && ground.kind == 1) {
            ground.thickness += thickness;
            return thickness;
        }
        if (valley.layers.size() == 8 || thickness == 0) {
            return 0;
        }
        int at = ground == null ? valley.layers.size() : valley.layers.indexOf(ground);
        valley.layers.add(at, new Layer(1, 22, thickness));
        return thickness;
    }

    int take(int place) {
        if (!in(place, 0, 1)) {
            return INVALID;
        }
        action();
        world.places.set(place, copyOf(world.blocks));
        return count(6);
    }

    int restore(int place) {
        if (!in(place, 0, 1)) {
            return INVALID;
        }
        if (world.places.get(place) == null) {
            return ILLEGAL;
        }
        action();
        List<Block> kept = copyOf(world.places.get(place));
        for (int block = 0; block < 10; block++) {
            world.accounts[1] += world.blocks.get(block).weight();
            world.accounts[0] += kept.get(block).weight();
        }
        world.blocks = kept;
        return count(6);
    }

    int undo() {
        if (history.isEmpty()) {
            return ILLEGAL;
        }
        world = history.removeLast();
        return history.size();
    }

    int append(int character) {
        if (!in(character, 1, 255)) {
            return INVALID;
        }
        if (text.length() == 140) {
            return FULL;
        }
        text.append((char) character);
        return text.length();
    }

    int clearText() {
        int previous = text.length();
        text.setLength(0);
        return previous;
    }

    int load() {
        World made = world.copy();
        TextMachine machine = new TextMachine(made);
        int error = machine.read(text.toString());
        if (error >= 0) {
            return -200000000 - error;
        }
        action();
        world = made;
        text.setLength(0);
        return machine.items;
    }

    /** Its states are named by what may come next. */
    private static final class TextMachine {
        private final World world;
        private String state = "item";
        private String digits = "";
        private int digitsFrom;
        private int block;
        private int kind;
        private int density;
        private List<Layer> layers;
        int items;

        TextMachine(World world) {
            this.world = world;
        }

        /** The error position, or -1. */
        int read(String text) {
            for (int at = 0; at < text.length(); at++) {
                char sign = text.charAt(at);
                if (Character.isDigit(sign) && sign < 128 && (state.equals("density") || state.equals("thickness"))) {
                    digitsFrom = digits.isEmpty() ? at : digitsFrom;
                    digits += sign;
                    continue;
                }
                if (!digits.isEmpty() && !takeNumber()) {
                    return digitsFrom;
                }
                if (sign != ' ' && !take(sign)) {
                    return at;
                }
            }
            if (!digits.isEmpty() && !takeNumber()) {
                return digitsFrom;
            }
            return state.equals("item") ? -1 : text.length();
        }

        private boolean takeNumber() {
            java.math.BigInteger value = new java.math.BigInteger(digits);
            boolean right = value.bitLength() < 20 && digits.charAt(0) != '0';
            int number = right ? value.intValue() : 0;
            if (state.equals("density")) {
                right = right && in(number, 24, 32);
                density = number;
                state = "star";
            } else {
                right = right && in(number, 1, 9999);
                layers.add(new Layer(kind, density, number));
                state = "behind layer";
            }
            digits = "";
            return right;
        }

        private boolean take(char sign) {
            switch (state) {
                case "item":
                    block = sign - '0';
                    layers = new ArrayList<>();
                    state = "colon";
                    return in(block, 0, 9);
                case "colon":
                    state = "first layer";
                    return sign == ':';
                case "first layer":
                    return sign == ';' ? endItem() : letter(sign);
                case "next layer":
                    return letter(sign);
                case "star":
                    state = "thickness";
                    return sign == '*';
                case "behind layer":
                    if (sign == ';') {
                        return endItem();
                    }
                    state = "next layer";
                    return sign == '+';
                default:
                    return false;
            }
        }

        private boolean letter(char sign) {
            kind = "isr".indexOf(sign);
            density = kind == 0 ? 9 : 22;
            state = kind == 2 ? "density" : "star";
            return kind >= 0 && layers.size() < 8;
        }

        private boolean endItem() {
            Block read = world.blocks.get(block);
            world.accounts[1] += read.weight();
            read.layers.clear();
            read.layers.addAll(layers);
            read.base = read.balance();
            world.accounts[0] += read.weight();
            items++;
            state = "item";
            return true;
        }
    }

    int count(int what) {
        List<Block> blocks = world.blocks;
        switch (what) {
            case 0: return world.steps;
            case 1: case 2: case 3: case 4: case 5: return (int) world.settings[what - 1];
            case 6: return blocks.stream().mapToInt(block -> block.layers.size()).sum();
            case 7: return (int) blocks.stream().filter(block -> !block.layers.isEmpty()).count();
            case 8: return (int) blocks.stream().filter(Block::iceOnTop).count();
            case 9: return (int) blocks.stream().filter(block -> block.base != block.balance()).count();
            case 10:
                long top = blocks.stream().mapToLong(Block::top).max().orElseThrow();
                return firstWith(top, blocks.stream().mapToLong(Block::top).toArray());
            case 11: return (int) world.places.stream().filter(place -> place != null).count();
            case 12: return history.size();
            case 13: return text.length();
            default: return INVALID;
        }
    }

    private static int firstWith(long value, long[] values) {
        for (int n = 0; n < values.length; n++) {
            if (values[n] == value) {
                return n;
            }
        }
        return -1;
    }

    int block(int block, int what) {
        if (!in(block, 0, 9) || !in(what, 0, 6)) {
            return INVALID;
        }
        Block b = world.blocks.get(block);
        long ice = b.layers.stream().filter(layer -> layer.kind == 0).mapToLong(layer -> layer.thickness * 9).sum();
        long[] told = {b.layers.size(), b.weight(), b.balance(), b.base, b.top(), b.thickness(), ice};
        return (int) told[what];
    }

    int layer(int block, int layer, int what) {
        if (!in(block, 0, 9) || !in(what, 0, 3) || layer < 0) {
            return INVALID;
        }
        Block b = world.blocks.get(block);
        if (layer >= b.layers.size()) {
            return NONE;
        }
        Layer l = b.layers.get(layer);
        long under = b.layers.subList(layer, b.layers.size()).stream().mapToLong(below -> below.thickness).sum();
        long[] told = {l.kind, l.density, l.thickness, under - b.base};
        return (int) told[what];
    }

    int account(int what) {
        if (!in(what, 0, 7)) {
            return INVALID;
        }
        if (what == 7) {
            return (int) world.blocks.stream().mapToLong(Block::weight).sum();
        }
        return (int) (what == 6 ? world.accounts[4] - world.accounts[5] : world.accounts[what]);
    }

    private int densityAt(Block block, long height) {
        if (height < -block.base) {
            return 33;
        }
        long upper = block.top();
        for (Layer layer : block.layers) {
            if (height < upper && height >= upper - layer.thickness) {
                return layer.density;
            }
            upper -= layer.thickness;
        }
        return 0;
    }

    int density(int block, int height) {
        if (!in(block, 0, 9) || !in(height, -99999, 99999)) {
            return INVALID;
        }
        return densityAt(world.blocks.get(block), height);
    }

    private static long pressureAt(Block block, long depth) {
        long sum = depth > block.base ? 33 * (depth - block.base) : 0;
        long upper = -block.top();
        for (Layer layer : block.layers) {
            long lower = upper + layer.thickness;
            if (depth > upper) {
                sum += layer.density * (Math.min(depth, lower) - upper);
            }
            upper = lower;
        }
        return sum;
    }

    int pressure(int block, int depth) {
        if (!in(block, 0, 9) || !in(depth, 0, 99999)) {
            return INVALID;
        }
        return (int) pressureAt(world.blocks.get(block), depth);
    }

    int why(int block) {
        if (!in(block, 0, 9)) {
            return INVALID;
        }
        Block b = world.blocks.get(block);
        if (b.layers.isEmpty()) {
            return 1;
        }
        if (b.iceOnTop()) {
            return 2;
        }
        if (valleyOf(world, block) < 0) {
            return 3;
        }
        return taskOf(world, block).taken == 0 ? 4 : 0;
    }

    int valley(int block) {
        if (!in(block, 0, 9)) {
            return INVALID;
        }
        int found = valleyOf(world, block);
        return found < 0 ? NONE : found;
    }

    int stepsToBalance(int block) {
        if (!in(block, 0, 9)) {
            return INVALID;
        }
        Block b = world.blocks.get(block).copy();
        int steps = 0;
        while (b.base != b.balance()) {
            b.drift(world.settings[4]);
            steps++;
        }
        return steps;
    }

    int bareTop(int block) {
        if (!in(block, 0, 9)) {
            return INVALID;
        }
        Block b = world.blocks.get(block).copy();
        b.layers.removeIf(layer -> layer.kind == 0);
        return (int) (b.thickness() - b.balance());
    }

    int topIn(int block, int steps) {
        if (!in(block, 0, 9) || !in(steps, 0, 100)) {
            return INVALID;
        }
        World ahead = world.copy();
        for (int n = 0; n < steps; n++) {
            step(ahead);
        }
        return (int) ahead.blocks.get(block).top();
    }

    int uneven(int depth, int what) {
        if (!in(depth, 0, 99999) || !in(what, 0, 2)) {
            return INVALID;
        }
        long[] pressures = world.blocks.stream().mapToLong(block -> pressureAt(block, depth)).toArray();
        long greatest = java.util.Arrays.stream(pressures).max().orElseThrow();
        long least = java.util.Arrays.stream(pressures).min().orElseThrow();
        long[] told = {greatest - least, firstWith(greatest, pressures), firstWith(least, pressures)};
        return (int) told[what];
    }
}
