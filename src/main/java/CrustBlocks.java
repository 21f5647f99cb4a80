/** Blocks of crust that float side by side; the promises are those of ../shared/DOC.md. */
public final class CrustBlocks {
    public static final int INVALID_ARGUMENT = -100000001;
    public static final int ILLEGAL_STATE = -100000002;
    public static final int CAPACITY_EXCEEDED = -100000003;
    public static final int NONE = -100000009;

    private static final int TEXT_ERROR = -200000000;

    private static final int BLOCKS = 10;
    private static final int MOST_LAYERS = 8;
    private static final int THICKEST = 9999;
    private static final int MOST_STEPS = 1000;
    private static final int MOST_STEPS_A_RUN = 50;
    private static final int MOST_STEPS_AHEAD = 100;
    private static final int MOST_FLOATING = 1000000;
    private static final int PLACES = 2;
    private static final int MOST_STATES = 5;
    private static final int LONGEST_TEXT = 140;
    private static final int HIGHEST_CODE = 255;
    private static final int FARTHEST = 99999;

    private static final int ICE = 0;
    private static final int SEDIMENT = 1;
    private static final int ROCK = 2;
    private static final int ICE_DENSITY = 9;
    private static final int SEDIMENT_DENSITY = 22;
    private static final int MANTLE_DENSITY = 33;
    private static final int[] LIGHTEST = {9, 22, 24};
    private static final int[] HEAVIEST = {9, 22, 32};

    private static final int SNOW_LINE = 0;
    private static final int GROWTH = 1;
    private static final int MELTING = 2;
    private static final int EROSION = 3;
    private static final int RATE = 4;
    private static final int SETTINGS = 5;
    private static final int[] FIRST_SETTINGS = {2000, 100, 100, 50, 40};
    private static final int[] LOWEST_SETTINGS = {-5000, 0, 0, 0, 1};
    private static final int[] HIGHEST_SETTINGS = {9999, 500, 500, 200, 100};

    private static final int ADDED = 0;
    private static final int REMOVED = 1;
    private static final int GROWN = 2;
    private static final int MELTED = 3;
    private static final int ERODED = 4;
    private static final int LAID = 5;
    private static final int KEPT_ACCOUNTS = 6;
    private static final int LOST = 6;
    private static final int ALL_WEIGHTS = 7;

    private static final int WOULD_ERODE = 0;
    private static final int HAS_NO_LAYERS = 1;
    private static final int HAS_ICE_ON_TOP = 2;
    private static final int HAS_NO_VALLEY = 3;
    private static final int WOULD_LOSE_NOTHING = 4;

    private final State state;
    // Takes what may yet be thrown away: a text that may prove wrong, and steps that only would be.
    private final State draft;
    private final History history;
    private final Text text;
    private final Stepper stepper;

    public CrustBlocks() {
        state = new State();
        draft = new State();
        history = new History();
        text = new Text();
        stepper = new Stepper();
    }

    // ---- layers

    public int addLayer(int block, int layer, int kind, int density, int thickness) {
        if (!isBlock(block) || !isKind(kind) || !isWithin(thickness, 1, THICKEST)) {
            return INVALID_ARGUMENT;
        }
        Column column = state.crust.columns[block];
        if (!isWithin(layer, 0, column.size) || !isWithin(density, LIGHTEST[kind], HEAVIEST[kind])) {
            return INVALID_ARGUMENT;
        }
        if (column.size >= MOST_LAYERS) {
            return CAPACITY_EXCEEDED;
        }
        history.keep(state);
        column.insert(layer, kind, density, thickness);
        state.accounts[ADDED] += density * thickness;
        return column.size;
    }

    public int removeLayer(int block, int layer) {
        if (!isBlock(block) || !state.crust.columns[block].hasLayer(layer)) {
            return INVALID_ARGUMENT;
        }
        history.keep(state);
        Column column = state.crust.columns[block];
        int thickness = column.thicknesses[layer];
        state.accounts[REMOVED] += column.weightOf(layer);
        column.delete(layer);
        return thickness;
    }

    public int strip(int kind) {
        if (!isKind(kind)) {
            return INVALID_ARGUMENT;
        }
        history.keep(state);
        int layersBefore = state.crust.allLayers();
        int weightBefore = state.crust.allWeights();
        for (int block = 0; block < BLOCKS; block++) {
            state.crust.columns[block].deleteKind(kind);
        }
        state.accounts[REMOVED] += weightBefore - state.crust.allWeights();
        return layersBefore - state.crust.allLayers();
    }

    public int settle() {
        history.keep(state);
        int changed = state.crust.unbalanced();
        for (int block = 0; block < BLOCKS; block++) {
            state.crust.columns[block].balanceBase();
        }
        return changed;
    }

    // ---- steps

    public int set(int what, int value) {
        if (!isWithin(what, 0, SETTINGS - 1)
                || !isWithin(value, LOWEST_SETTINGS[what], HIGHEST_SETTINGS[what])) {
            return INVALID_ARGUMENT;
        }
        history.keep(state);
        int previous = state.settings[what];
        state.settings[what] = value;
        return previous;
    }

    public int run(int steps) {
        if (!isWithin(steps, 1, MOST_STEPS_A_RUN)) {
            return INVALID_ARGUMENT;
        }
        if (state.steps + steps > MOST_STEPS) {
            return CAPACITY_EXCEEDED;
        }
        history.keep(state);
        for (int n = 0; n < steps; n++) {
            stepper.makeStep(state);
        }
        state.steps += steps;
        return state.steps;
    }

    // ---- snapshots

    public int take(int place) {
        if (!isPlace(place)) {
            return INVALID_ARGUMENT;
        }
        history.keep(state);
        state.snapshots[place].copyFrom(state.crust);
        state.filled[place] = 1;
        return state.crust.allLayers();
    }

    public int restore(int place) {
        if (!isPlace(place)) {
            return INVALID_ARGUMENT;
        }
        if (state.filled[place] == 0) {
            return ILLEGAL_STATE;
        }
        history.keep(state);
        state.accounts[REMOVED] += state.crust.allWeights();
        state.crust.copyFrom(state.snapshots[place]);
        state.accounts[ADDED] += state.crust.allWeights();
        return state.crust.allLayers();
    }

    public int undo() {
        if (history.size == 0) {
            return ILLEGAL_STATE;
        }
        history.giveBack(state);
        return history.size;
    }

    // ---- text

    public int append(int character) {
        if (!isWithin(character, 1, HIGHEST_CODE)) {
            return INVALID_ARGUMENT;
        }
        if (text.length >= LONGEST_TEXT) {
            return CAPACITY_EXCEEDED;
        }
        text.characters[text.length] = character;
        text.length++;
        return text.length;
    }

    public int clearText() {
        int previous = text.length;
        text.length = 0;
        return previous;
    }

    public int load() {
        draft.copyFrom(state);
        int items = text.readInto(draft);
        if (text.isWrong()) {
            return TEXT_ERROR - text.errorAt;
        }
        history.keep(state);
        state.copyFrom(draft);
        text.length = 0;
        return items;
    }

    // ---- looking

    public int count(int what) {
        switch (what) {
            case 0: return state.steps;
            case 1: return state.settings[SNOW_LINE];
            case 2: return state.settings[GROWTH];
            case 3: return state.settings[MELTING];
            case 4: return state.settings[EROSION];
            case 5: return state.settings[RATE];
            case 6: return state.crust.allLayers();
            case 7: return state.crust.withLayers();
            case 8: return state.crust.withIceOnTop();
            case 9: return state.crust.unbalanced();
            case 10: return state.crust.highest();
            case 11: return state.filledPlaces();
            case 12: return history.size;
            case 13: return text.length;
            default: return INVALID_ARGUMENT;
        }
    }

    public int block(int block, int what) {
        if (!isBlock(block)) {
            return INVALID_ARGUMENT;
        }
        Column column = state.crust.columns[block];
        switch (what) {
            case 0: return column.size;
            case 1: return column.weight();
            case 2: return column.balance();
            case 3: return column.base;
            case 4: return column.top();
            case 5: return column.allThicknesses();
            case 6: return column.iceThickness() * ICE_DENSITY;
            default: return INVALID_ARGUMENT;
        }
    }

    public int layer(int block, int layer, int what) {
        if (!isBlock(block) || layer < 0 || !isWithin(what, 0, 3)) {
            return INVALID_ARGUMENT;
        }
        Column column = state.crust.columns[block];
        if (!column.hasLayer(layer)) {
            return NONE;
        }
        switch (what) {
            case 0: return column.kinds[layer];
            case 1: return column.densities[layer];
            case 2: return column.thicknesses[layer];
            default: return column.upperSide(layer);
        }
    }

    public int account(int what) {
        if (!isWithin(what, 0, ALL_WEIGHTS)) {
            return INVALID_ARGUMENT;
        }
        if (what == ALL_WEIGHTS) {
            return state.crust.allWeights();
        }
        if (what == LOST) {
            return state.accounts[ERODED] - state.accounts[LAID];
        }
        return state.accounts[what];
    }

    public int density(int block, int height) {
        if (!isBlock(block) || !isWithin(height, -FARTHEST, FARTHEST)) {
            return INVALID_ARGUMENT;
        }
        return state.crust.columns[block].densityAt(height);
    }

    public int pressure(int block, int depth) {
        if (!isBlock(block) || !isWithin(depth, 0, FARTHEST)) {
            return INVALID_ARGUMENT;
        }
        return state.crust.columns[block].pressureAt(depth);
    }

    // ---- reasons, and what would be, which changes nothing

    public int why(int block) {
        if (!isBlock(block)) {
            return INVALID_ARGUMENT;
        }
        return state.crust.reason(block, state.settings[EROSION]);
    }

    public int valley(int block) {
        if (!isBlock(block)) {
            return INVALID_ARGUMENT;
        }
        return state.crust.lowerNeighbor(block);
    }

    public int stepsToBalance(int block) {
        if (!isBlock(block)) {
            return INVALID_ARGUMENT;
        }
        return state.crust.columns[block].stepsOfFloating(state.settings[RATE]);
    }

    public int bareTop(int block) {
        if (!isBlock(block)) {
            return INVALID_ARGUMENT;
        }
        return state.crust.columns[block].balancedTopWithoutIce();
    }

    public int topIn(int block, int steps) {
        if (!isBlock(block) || !isWithin(steps, 0, MOST_STEPS_AHEAD)) {
            return INVALID_ARGUMENT;
        }
        draft.copyFrom(state);
        for (int n = 0; n < steps; n++) {
            stepper.makeStep(draft);
        }
        return draft.crust.columns[block].top();
    }

    public int uneven(int depth, int what) {
        if (!isWithin(depth, 0, FARTHEST) || !isWithin(what, 0, 2)) {
            return INVALID_ARGUMENT;
        }
        Column[] columns = state.crust.columns;
        int greater = 0;
        int lesser = 0;
        for (int block = 1; block < BLOCKS; block++) {
            int pressure = columns[block].pressureAt(depth);
            if (pressure > columns[greater].pressureAt(depth)) {
                greater = block;
            }
            if (pressure < columns[lesser].pressureAt(depth)) {
                lesser = block;
            }
        }
        switch (what) {
            case 0: return columns[greater].pressureAt(depth) - columns[lesser].pressureAt(depth);
            case 1: return greater;
            default: return lesser;
        }
    }

    private static boolean isWithin(int value, int lowest, int highest) {
        return value >= lowest && value <= highest;
    }

    private static boolean isBlock(int block) {
        return isWithin(block, 0, BLOCKS - 1);
    }

    private static boolean isKind(int kind) {
        return isWithin(kind, ICE, ROCK);
    }

    private static boolean isPlace(int place) {
        return isWithin(place, 0, PLACES - 1);
    }

    /** One block: its layers from the top down, and its base. */
    private static final class Column {
        final int[] kinds = new int[MOST_LAYERS];
        final int[] densities = new int[MOST_LAYERS];
        final int[] thicknesses = new int[MOST_LAYERS];
        int size;
        int base;

        void copyFrom(Column other) {
            System.arraycopy(other.kinds, 0, kinds, 0, MOST_LAYERS);
            System.arraycopy(other.densities, 0, densities, 0, MOST_LAYERS);
            System.arraycopy(other.thicknesses, 0, thicknesses, 0, MOST_LAYERS);
            size = other.size;
            base = other.base;
        }

        boolean hasLayer(int layer) {
            return isWithin(layer, 0, size - 1);
        }

        boolean hasIceOnTop() {
            return size > 0 && kinds[0] == ICE;
        }

        int weightOf(int layer) {
            return densities[layer] * thicknesses[layer];
        }

        int weight() {
            int sum = 0;
            for (int layer = 0; layer < size; layer++) {
                sum += weightOf(layer);
            }
            return sum;
        }

        int allThicknesses() {
            int sum = 0;
            for (int layer = 0; layer < size; layer++) {
                sum += thicknesses[layer];
            }
            return sum;
        }

        int iceThickness() {
            int sum = 0;
            for (int layer = 0; layer < size; layer++) {
                if (kinds[layer] == ICE) {
                    sum += thicknesses[layer];
                }
            }
            return sum;
        }

        int balance() {
            return weight() / MANTLE_DENSITY;
        }

        int top() {
            return allThicknesses() - base;
        }

        int upperSide(int layer) {
            int height = top();
            for (int above = 0; above < layer; above++) {
                height -= thicknesses[above];
            }
            return height;
        }

        /** The topmost layer that is not ice, or the number of layers if all are. */
        int firstBelowIce() {
            int layer = 0;
            while (layer < size && kinds[layer] == ICE) {
                layer++;
            }
            return layer;
        }

        void insert(int layer, int kind, int density, int thickness) {
            if (size >= MOST_LAYERS || !isWithin(layer, 0, size)) {
                return;
            }
            for (int below = size; below > layer; below--) {
                moveLayer(below - 1, below);
            }
            kinds[layer] = kind;
            densities[layer] = density;
            thicknesses[layer] = thickness;
            size++;
        }

        void delete(int layer) {
            if (!hasLayer(layer)) {
                return;
            }
            for (int below = layer + 1; below < size; below++) {
                moveLayer(below, below - 1);
            }
            size--;
        }

        void moveLayer(int from, int to) {
            kinds[to] = kinds[from];
            densities[to] = densities[from];
            thicknesses[to] = thicknesses[from];
        }

        void deleteKind(int kind) {
            for (int layer = size - 1; layer >= 0; layer--) {
                if (kinds[layer] == kind) {
                    delete(layer);
                }
            }
        }

        void thin(int layer, int lost) {
            thicknesses[layer] -= lost;
            if (thicknesses[layer] <= 0) {
                delete(layer);
            }
        }

        void balanceBase() {
            base = balance();
        }

        void floatOnce(int rate) {
            base = floated(base, balance(), rate);
        }

        int stepsOfFloating(int rate) {
            int balance = balance();
            int depth = base;
            int steps = 0;
            // Each step brings the depth nearer by at least 1, so the bound is never met.
            while (depth != balance && steps < MOST_FLOATING) {
                depth = floated(depth, balance, rate);
                steps++;
            }
            return steps;
        }

        static int floated(int depth, int balance, int rate) {
            int gap = balance - depth;
            int move = (int) ((long) gap * rate / 100);
            if (move == 0) {
                move = Integer.compare(gap, 0);
            }
            return depth + move;
        }

        int balancedTopWithoutIce() {
            int ice = iceThickness();
            return allThicknesses() - ice - (weight() - ice * ICE_DENSITY) / MANTLE_DENSITY;
        }

        int densityAt(int height) {
            if (height < -base) {
                return MANTLE_DENSITY;
            }
            int lower = -base;
            for (int layer = size - 1; layer >= 0; layer--) {
                lower += thicknesses[layer];
                if (height < lower) {
                    return densities[layer];
                }
            }
            return 0;
        }

        int pressureAt(int depth) {
            int sum = 0;
            int above = depth + top();
            for (int layer = 0; layer < size && above > 0; layer++) {
                sum += densities[layer] * Math.min(above, thicknesses[layer]);
                above -= thicknesses[layer];
            }
            return sum + MANTLE_DENSITY * Math.max(depth - base, 0);
        }
    }

    /** All blocks side by side. */
    private static final class Crust {
        final Column[] columns = new Column[BLOCKS];

        Crust() {
            for (int block = 0; block < BLOCKS; block++) {
                columns[block] = new Column();
            }
        }

        void copyFrom(Crust other) {
            for (int block = 0; block < BLOCKS; block++) {
                columns[block].copyFrom(other.columns[block]);
            }
        }

        int allLayers() {
            int sum = 0;
            for (int block = 0; block < BLOCKS; block++) {
                sum += columns[block].size;
            }
            return sum;
        }

        int allWeights() {
            int sum = 0;
            for (int block = 0; block < BLOCKS; block++) {
                sum += columns[block].weight();
            }
            return sum;
        }

        int withLayers() {
            int number = 0;
            for (int block = 0; block < BLOCKS; block++) {
                if (columns[block].size > 0) {
                    number++;
                }
            }
            return number;
        }

        int withIceOnTop() {
            int number = 0;
            for (int block = 0; block < BLOCKS; block++) {
                if (columns[block].hasIceOnTop()) {
                    number++;
                }
            }
            return number;
        }

        int unbalanced() {
            int number = 0;
            for (int block = 0; block < BLOCKS; block++) {
                if (columns[block].base != columns[block].balance()) {
                    number++;
                }
            }
            return number;
        }

        int highest() {
            int highest = 0;
            for (int block = 1; block < BLOCKS; block++) {
                if (columns[block].top() > columns[highest].top()) {
                    highest = block;
                }
            }
            return highest;
        }

        /** The valley of a block, or NONE; the left neighbor comes first, so it stands if both are alike. */
        int lowerNeighbor(int block) {
            int lowest = NONE;
            int lowestTop = columns[block].top();
            if (block > 0 && columns[block - 1].top() < lowestTop) {
                lowest = block - 1;
                lowestTop = columns[lowest].top();
            }
            if (block < BLOCKS - 1 && columns[block + 1].top() < lowestTop) {
                lowest = block + 1;
            }
            return lowest;
        }

        int reason(int block, int erosion) {
            if (columns[block].size == 0) {
                return HAS_NO_LAYERS;
            }
            if (columns[block].hasIceOnTop()) {
                return HAS_ICE_ON_TOP;
            }
            int valley = lowerNeighbor(block);
            if (valley == NONE) {
                return HAS_NO_VALLEY;
            }
            return takenBetween(block, valley, erosion) == 0 ? WOULD_LOSE_NOTHING : WOULD_ERODE;
        }

        int takenBetween(int block, int valley, int erosion) {
            long fall = (long) columns[block].top() - columns[valley].top();
            return (int) Math.min(fall * erosion / 1000, (long) columns[block].thicknesses[0]);
        }
    }

    /** All that undo() brings back. */
    private static final class State {
        final Crust crust = new Crust();
        final Crust[] snapshots = new Crust[PLACES];
        final int[] filled = new int[PLACES];
        final int[] settings = new int[SETTINGS];
        final int[] accounts = new int[KEPT_ACCOUNTS];
        int steps;

        State() {
            for (int place = 0; place < PLACES; place++) {
                snapshots[place] = new Crust();
            }
            System.arraycopy(FIRST_SETTINGS, 0, settings, 0, SETTINGS);
        }

        void copyFrom(State other) {
            crust.copyFrom(other.crust);
            for (int place = 0; place < PLACES; place++) {
                snapshots[place].copyFrom(other.snapshots[place]);
            }
            System.arraycopy(other.filled, 0, filled, 0, PLACES);
            System.arraycopy(other.settings, 0, settings, 0, SETTINGS);
            System.arraycopy(other.accounts, 0, accounts, 0, KEPT_ACCOUNTS);
            steps = other.steps;
        }

        int filledPlaces() {
            int number = 0;
            for (int place = 0; place < PLACES; place++) {
                number += filled[place];
            }
            return number;
        }
    }

    /** A ring of states, so that keeping one makes no new object. */
    private static final class History {
        final State[] states = new State[MOST_STATES];
        int oldest;
        int size;

        History() {
            for (int n = 0; n < MOST_STATES; n++) {
                states[n] = new State();
            }
        }

        void keep(State state) {
            if (size == MOST_STATES) {
                oldest = (oldest + 1) % MOST_STATES;
                size--;
            }
            states[(oldest + size) % MOST_STATES].copyFrom(state);
            size++;
        }

        void giveBack(State state) {
            if (size == 0) {
                return;
            }
            size--;
            state.copyFrom(states[(oldest + size) % MOST_STATES]);
        }
    }

    /** Makes steps; its rows keep what erosion finds ahead of doing it. */
    private static final class Stepper {
        final int[] valleys = new int[BLOCKS];
        final int[] taken = new int[BLOCKS];
        // Where the layers lie that become thinner: sediment may come on them before their turn.
        final int[] places = new int[BLOCKS];

        void makeStep(State state) {
            for (int block = 0; block < BLOCKS; block++) {
                changeIce(state, state.crust.columns[block]);
            }
            findErosion(state);
            for (int block = 0; block < BLOCKS; block++) {
                if (taken[block] > 0) {
                    erode(state, block);
                }
            }
            for (int block = 0; block < BLOCKS; block++) {
                state.crust.columns[block].floatOnce(state.settings[RATE]);
            }
        }

        static void changeIce(State state, Column column) {
            if (column.size == 0) {
                return;
            }
            if (column.top() > state.settings[SNOW_LINE]) {
                growIce(state, column, state.settings[GROWTH]);
            } else if (column.hasIceOnTop()) {
                int melted = Math.min(state.settings[MELTING], column.thicknesses[0]);
                column.thin(0, melted);
                state.accounts[MELTED] += melted * ICE_DENSITY;
            }
        }

        static void growIce(State state, Column column, int growth) {
            if (column.hasIceOnTop()) {
                column.thicknesses[0] += growth;
            } else if (column.size < MOST_LAYERS && growth > 0) {
                column.insert(0, ICE, ICE_DENSITY, growth);
            } else {
                return;
            }
            state.accounts[GROWN] += growth * ICE_DENSITY;
        }

        void findErosion(State state) {
            int erosion = state.settings[EROSION];
            for (int block = 0; block < BLOCKS; block++) {
                places[block] = 0;
                taken[block] = 0;
                if (state.crust.reason(block, erosion) == WOULD_ERODE) {
                    valleys[block] = state.crust.lowerNeighbor(block);
                    taken[block] = state.crust.takenBetween(block, valleys[block], erosion);
                }
            }
        }

        void erode(State state, int block) {
            Column column = state.crust.columns[block];
            int place = places[block];
            int valley = valleys[block];
            if (!column.hasLayer(place) || !isBlock(valley)) {
                return;
            }
            int weight = taken[block] * column.densities[place];
            column.thin(place, taken[block]);
            state.accounts[ERODED] += weight;
            int thickness = laidDown(state.crust.columns[valley], valley, weight / SEDIMENT_DENSITY);
            state.accounts[LAID] += thickness * SEDIMENT_DENSITY;
        }

        /** Lays sediment on a valley as far as there is room; returns the thickness that was laid. */
        int laidDown(Column column, int valley, int thickness) {
            int below = column.firstBelowIce();
            if (column.hasLayer(below) && column.kinds[below] == SEDIMENT) {
                column.thicknesses[below] += thickness;
                return thickness;
            }
            if (column.size >= MOST_LAYERS || thickness == 0) {
                return 0;
            }
            column.insert(below, SEDIMENT, SEDIMENT_DENSITY, thickness);
            if (below <= places[valley]) {
                places[valley]++;
            }
            return thickness;
        }
    }

    /** The text, and the place in it from which it is read on. */
    private static final class Text {
        // No character of a text has this code.
        static final int END = 0;
        static final int NOWHERE = -1;

        final int[] characters = new int[LONGEST_TEXT];
        int length;
        int position;
        int errorAt;

        boolean isWrong() {
            return errorAt != NOWHERE;
        }

        /** Returns the number of items; if isWrong() then, the state is spoilt. */
        int readInto(State state) {
            position = 0;
            errorAt = NOWHERE;
            int items = 0;
            while (items < LONGEST_TEXT && !isWrong() && nextSign() != END) {
                readItem(state);
                items++;
            }
            return items;
        }

        void readItem(State state) {
            int block = nextSign() - '0';
            if (!isBlock(block)) {
                fail(position);
                return;
            }
            position++;
            expect(':');
            Column column = state.crust.columns[block];
            state.accounts[REMOVED] += column.weight();
            column.size = 0;
            readLayers(column);
            expect(';');
            column.balanceBase();
            state.accounts[ADDED] += column.weight();
        }

        void readLayers(Column column) {
            if (isWrong() || nextSign() == ';') {
                return;
            }
            readLayer(column);
            // A layer has three characters at least, so the bound is never met.
            for (int n = 0; n < LONGEST_TEXT && !isWrong() && nextSign() == '+'; n++) {
                position++;
                readLayer(column);
            }
        }

        void readLayer(Column column) {
            int kind = kindOf(nextSign());
            if (!isKind(kind) || column.size >= MOST_LAYERS) {
                fail(position);
                return;
            }
            position++;
            int density = LIGHTEST[kind];
            if (kind == ROCK) {
                density = readNumber(LIGHTEST[ROCK], HEAVIEST[ROCK]);
            }
            expect('*');
            int thickness = readNumber(1, THICKEST);
            if (!isWrong()) {
                column.insert(column.size, kind, density, thickness);
            }
        }

        int readNumber(int lowest, int highest) {
            if (isWrong()) {
                return lowest;
            }
            boolean zeroAhead = nextSign() == '0';
            int start = position;
            int value = 0;
            while (position < length && isWithin(characters[position], '0', '9')) {
                // A text has room for far more digits than an int.
                value = Math.min(value * 10 + characters[position] - '0', THICKEST + 1);
                position++;
            }
            if (zeroAhead || !isWithin(value, lowest, highest)) {
                fail(start);
            }
            return value;
        }

        void expect(int sign) {
            if (isWrong()) {
                return;
            }
            if (nextSign() == sign) {
                position++;
            } else {
                fail(position);
            }
        }

        void fail(int place) {
            if (errorAt == NOWHERE) {
                errorAt = place;
            }
        }

        /** Passes spaces; so at the end the position is the length of the text. */
        int nextSign() {
            while (position < length && characters[position] == ' ') {
                position++;
            }
            return position < length ? characters[position] : END;
        }

        static int kindOf(int letter) {
            switch (letter) {
                case 'i': return ICE;
                case 's': return SEDIMENT;
                case 'r': return ROCK;
                default: return NONE;
            }
        }
    }
}
