/**
 * A world of blocks.
 *
 * <p>A cell is kept as one number, its state: its KIND, and 8 times its LEVEL. Two cells are of
 * the same KIND and LEVEL if their states are equal. All arrays are made with the object and used
 * again, so that no call makes an object.
 */
public final class CobbleWorld {
    private static final int WIDTH = 16;
    private static final int HEIGHT = 12;
    private static final int LAYER_CELLS = WIDTH * WIDTH;
    private static final int CELLS = LAYER_CELLS * HEIGHT;
    private static final int CHUNK_WIDTH = 4;
    private static final int CHUNKS_IN_ROW = 4;
    private static final int CHUNKS = 16;
    private static final int CHUNK_CELLS = CHUNK_WIDTH * HEIGHT * CHUNK_WIDTH;

    private static final int AIR = 0;
    private static final int STONE = 1;
    private static final int GLASS = 2;
    private static final int LAMP = 3;
    private static final int SAND = 4;
    private static final int LEAF = 5;
    private static final int WATER = 6;
    /** What stands in place of a KIND, and of a state, for a cell that is BEYOND. */
    private static final int BEYOND = 7;
    private static final int KINDS = 7;

    private static final int LEVEL_UNIT = 8;
    private static final int SPRING_LEVEL = 8;
    private static final int FALLING_LEVEL = 7;
    private static final int SPRING = WATER + LEVEL_UNIT * SPRING_LEVEL;

    private static final int SIDES = 6;
    private static final int BELOW = 2;
    private static final int ABOVE = 3;
    private static final int[] STEP_X = {-1, 1, 0, 0, 0, 0};
    private static final int[] STEP_Y = {0, 0, -1, 1, 0, 0};
    private static final int[] STEP_Z = {0, 0, 0, 0, -1, 1};

    private static final int SKY_LIGHT = 15;
    private static final int LAMP_LIGHT = 12;

    private static final int MOST_FILLED = 16;
    private static final int MOST_COPIED = 8;
    private static final int MOST_SEED = 999;
    private static final int MOST_TICKS = 12;
    private static final int RUN_NUMBERS = 3;
    private static final int QUAD_NUMBERS = 6;
    private static final int DARK_WITH_LIGHT = 8;

    private final Grid grid;
    /** A world that is tried out, so that the true one is not changed. */
    private final Grid trial;
    private final Flow flow;
    private final Lights lights;
    private final Runs runRow;
    private final Mesh mesh;
    private final Clip clip;
    private int ticksGone;
    /** Whether the lights are those of the grid as it is now. */
    private boolean isLit;

    public CobbleWorld() {
        grid = new Grid();
        trial = new Grid();
        flow = new Flow();
        lights = new Lights();
        runRow = new Runs();
        mesh = new Mesh();
        clip = new Clip();
        ticksGone = 0;
        isLit = false;
    }

    // ---- what is set

    public int set(int x, int y, int z, int kind)
            throws IndexOutOfBoundsException, IllegalArgumentException, IllegalStateException {
        requireCell(x, y, z);
        requireKind(kind);
        requireHere(x, y, z);
        int before = kindOf(grid.stateAt(x, y, z));
        grid.put(x, y, z, stateOf(kind));
        isLit = false;
        return before;
    }

    public int fill(int x, int y, int z, int w, int h, int d, int kind)
            throws IndexOutOfBoundsException, IllegalArgumentException, IllegalStateException {
        requireBox(x, y, z, w, h, d, MOST_FILLED);
        requireKind(kind);
        requireColumnsHere(x, z, w, d);
        int others = 0;
        for (int cellY = y; cellY < y + h; cellY++) {
            for (int cellZ = z; cellZ < z + d; cellZ++) {
                for (int cellX = x; cellX < x + w; cellX++) {
                    if (kindOf(grid.stateAt(cellX, cellY, cellZ)) != kind) {
                        others++;
                    }
                    grid.put(cellX, cellY, cellZ, stateOf(kind));
                }
            }
        }
        isLit = false;
        return others;
    }

    public int landscape(int seed) throws IllegalArgumentException {
        if (seed < 0 || seed > MOST_SEED) {
            throw new IllegalArgumentException("a seed is 0 to 999");
        }
        for (int z = 0; z < WIDTH; z++) {
            for (int x = 0; x < WIDTH; x++) {
                if (!grid.isAway(chunkOf(x, z))) {
                    raiseColumn(x, z, 2 + (7 * x + 13 * z + x * z + seed) % 6);
                }
            }
        }
        isLit = false;
        return grid.countSolid();
    }

    public int send(int chunk, boolean isAway) throws IndexOutOfBoundsException {
        requireChunk(chunk);
        grid.mark(chunk, isAway);
        isLit = false;
        runRow.read(grid, chunk);
        return runRow.size();
    }

    public int tick(int ticks) throws IllegalArgumentException {
        requireTicks(ticks);
        for (int i = 0; i < ticks; i++) {
            flow.pass(grid);
        }
        ticksGone += ticks;
        isLit = false;
        return grid.countOf(WATER);
    }

    public int ticks() {
        return ticksGone;
    }

    // ---- what is where

    public int kind(int x, int y, int z) throws IndexOutOfBoundsException {
        requireCell(x, y, z);
        int kind = kindOf(grid.stateAt(x, y, z));
        return kind == BEYOND ? -1 : kind;
    }

    public int level(int x, int y, int z) throws IndexOutOfBoundsException {
        requireCell(x, y, z);
        return levelOf(grid.stateAt(x, y, z));
    }

    public int top(int x, int z) throws IndexOutOfBoundsException {
        requireCell(x, 0, z);
        if (grid.isAway(chunkOf(x, z))) {
            return -1;
        }
        int y = HEIGHT - 1;
        while (y >= 0 && grid.stateAt(x, y, z) == AIR) {
            y--;
        }
        return y;
    }

    public int count(int kind) throws IllegalArgumentException {
        requireKind(kind);
        return grid.countOf(kind);
    }

    public int look(int x, int y, int z, int side)
            throws IndexOutOfBoundsException, IllegalArgumentException {
        requireCell(x, y, z);
        requireSide(side);
        for (int far = 1; far < WIDTH; far++) {
            int state = grid.stateAt(
                    x + far * STEP_X[side], y + far * STEP_Y[side], z + far * STEP_Z[side]);
            if (state == BEYOND) {
                return 0;
            }
            if (state != AIR) {
                return far;
            }
        }
        return 0;
    }

    public int away() {
        return grid.awaySet();
    }

    public int runs(int chunk) throws IndexOutOfBoundsException {
        requireChunk(chunk);
        runRow.read(grid, chunk);
        return runRow.size();
    }

    public int run(int chunk, int run, int what)
            throws IndexOutOfBoundsException, IllegalArgumentException {
        requireChunk(chunk);
        runRow.read(grid, chunk);
        if (run < 0 || run >= runRow.size()) {
            throw new IndexOutOfBoundsException("there is no such RUN");
        }
        if (what < 0 || what >= RUN_NUMBERS) {
            throw new IllegalArgumentException("what is 0 to 2");
        }
        return runRow.number(run, what);
    }

    // ---- light and faces

    public int sky(int x, int y, int z) throws IndexOutOfBoundsException, IllegalStateException {
        requireCell(x, y, z);
        requireHere(x, y, z);
        lightUp();
        return lights.skyAt(x, y, z);
    }

    public int glow(int x, int y, int z) throws IndexOutOfBoundsException, IllegalStateException {
        requireCell(x, y, z);
        requireHere(x, y, z);
        lightUp();
        return lights.glowAt(x, y, z);
    }

    public int dark(int light) throws IllegalArgumentException {
        if (light < 1 || light > SKY_LIGHT) {
            throw new IllegalArgumentException("a light is 1 to 15");
        }
        lightUp();
        return lights.countBelow(grid, light);
    }

    public int faces(int chunk, int side)
            throws IndexOutOfBoundsException, IllegalArgumentException {
        requireChunk(chunk);
        requireSide(side);
        mesh.lay(grid, chunk, side);
        return mesh.faceCount();
    }

    public int quads(int chunk, int side)
            throws IndexOutOfBoundsException, IllegalArgumentException {
        requireChunk(chunk);
        requireSide(side);
        mesh.lay(grid, chunk, side);
        return mesh.quadCount();
    }

    public int quad(int chunk, int side, int quad, int what)
            throws IndexOutOfBoundsException, IllegalArgumentException {
        requireChunk(chunk);
        requireSide(side);
        mesh.lay(grid, chunk, side);
        if (quad < 0 || quad >= mesh.quadCount()) {
            throw new IndexOutOfBoundsException("there is no such QUAD");
        }
        if (what < 0 || what >= QUAD_NUMBERS) {
            throw new IllegalArgumentException("what is 0 to 5");
        }
        return mesh.number(quad, what);
    }

    public double gain() {
        int allFaces = 0;
        int allQuads = 0;
        for (int chunk = 0; chunk < CHUNKS; chunk++) {
            for (int side = 0; side < SIDES; side++) {
                mesh.lay(grid, chunk, side);
                allFaces += mesh.faceCount();
                allQuads += mesh.quadCount();
            }
        }
        return allQuads == 0 ? 0.0 : (double) allFaces / (double) allQuads;
    }

    public double brightness() {
        lightUp();
        int clear = grid.countClear();
        return clear == 0 ? 0.0 : (double) lights.sum(grid) / (double) clear;
    }

    // ---- boxes

    public int copy(int x, int y, int z, int w, int h, int d)
            throws IndexOutOfBoundsException, IllegalStateException {
        requireBox(x, y, z, w, h, d, MOST_COPIED);
        requireColumnsHere(x, z, w, d);
        clip.resize(w, h, d);
        int solid = 0;
        for (int j = 0; j < h; j++) {
            for (int k = 0; k < d; k++) {
                for (int i = 0; i < w; i++) {
                    int state = grid.stateAt(x + i, y + j, z + k);
                    clip.put(i, j, k, state);
                    if (state != AIR) {
                        solid++;
                    }
                }
            }
        }
        return solid;
    }

    public int turn() throws IllegalStateException {
        requireClip();
        clip.rotate();
        return clip.width();
    }

    public int paste(int x, int y, int z, boolean isAir)
            throws IllegalStateException, IndexOutOfBoundsException, IllegalArgumentException {
        requireClip();
        requireBox(x, y, z, clip.width(), clip.height(), clip.depth(), MOST_COPIED);
        if (!grid.areColumnsHere(x, z, clip.width(), clip.depth())) {
            throw new IllegalArgumentException("a cell would be BEYOND");
        }
        int changed = 0;
        for (int j = 0; j < clip.height(); j++) {
            for (int k = 0; k < clip.depth(); k++) {
                for (int i = 0; i < clip.width(); i++) {
                    int state = clip.stateAt(i, j, k);
                    if ((isAir || state != AIR) && state != grid.stateAt(x + i, y + j, z + k)) {
                        grid.put(x + i, y + j, z + k, state);
                        changed++;
                    }
                }
            }
        }
        isLit = false;
        return changed;
    }

    // ---- what would be (nothing is changed)

    public int darkWith(int x, int y, int z, int kind)
            throws IndexOutOfBoundsException, IllegalArgumentException, IllegalStateException {
        requireCell(x, y, z);
        requireKind(kind);
        requireHere(x, y, z);
        trial.takeOver(grid);
        trial.put(x, y, z, stateOf(kind));
        lights.flood(trial);
        isLit = false;
        return lights.countBelow(trial, DARK_WITH_LIGHT);
    }

    public int calmIn(int ticks) throws IllegalArgumentException {
        requireTicks(ticks);
        trial.takeOver(grid);
        for (int i = 0; i <= ticks; i++) {
            if (!flow.pass(trial)) {
                return i;
            }
        }
        return -1;
    }

    public int waterIn(int ticks) throws IllegalArgumentException {
        requireTicks(ticks);
        trial.takeOver(grid);
        for (int i = 0; i < ticks; i++) {
            flow.pass(trial);
        }
        return trial.countOf(WATER);
    }

    public long digest() {
        long d = 58054;
        d = fold(d, ticks());
        d = fold(d, away());
        d = foldRuns(d);
        for (int kind = 0; kind < KINDS; kind++) {
            d = fold(d, count(kind));
        }
        for (int light = 4; light <= 12; light += 4) {
            d = fold(d, dark(light));
        }
        for (int chunk = 0; chunk < CHUNKS; chunk++) {
            d = foldFaces(d, chunk, 3);
            d = foldFaces(d, chunk, 0);
        }
        for (int x = 0; x < WIDTH; x++) {
            d = fold(d, top(x, x));
        }
        return fold(d, waterIn(3));
    }

    private static long fold(long d, long number) {
        return d * 31 + number;
    }

    private long foldRuns(long start) {
        long d = start;
        for (int chunk = 0; chunk < CHUNKS; chunk++) {
            runRow.read(grid, chunk);
            d = fold(d, runRow.size());
            for (int run = 0; run < runRow.size(); run++) {
                for (int what = 0; what < RUN_NUMBERS; what++) {
                    d = fold(d, runRow.number(run, what));
                }
            }
        }
        return d;
    }

    private long foldFaces(long start, int chunk, int side) {
        mesh.lay(grid, chunk, side);
        return fold(fold(start, mesh.faceCount()), mesh.quadCount());
    }

    private void raiseColumn(int x, int z, int height) {
        for (int y = 0; y < HEIGHT; y++) {
            grid.put(x, y, z, stateOf(landscapeKind(y, height)));
        }
    }

    private static int landscapeKind(int y, int height) {
        boolean isLow = height < 4;
        if (y < height - 1) {
            return STONE;
        }
        if (y == height - 1) {
            return isLow ? SAND : STONE;
        }
        if (isLow && y <= 3) {
            return WATER;
        }
        return y == height && height == 6 ? LEAF : AIR;
    }

    private void lightUp() {
        if (!isLit) {
            lights.flood(grid);
            isLit = true;
        }
    }

    // ---- what a call asks for

    private static void requireCell(int x, int y, int z) {
        if (!isInWorld(x, y, z)) {
            throw new IndexOutOfBoundsException("there is no such cell");
        }
    }

    private static void requireBox(int x, int y, int z, int w, int h, int d, int most) {
        if (w < 1 || w > most || h < 1 || h > most || d < 1 || d > most) {
            throw new IndexOutOfBoundsException("the box is too small or too large");
        }
        if (!isInWorld(x, y, z) || !isInWorld(x + w - 1, y + h - 1, z + d - 1)) {
            throw new IndexOutOfBoundsException("a cell of the box is not in the world");
        }
    }

    private static void requireKind(int kind) {
        if (kind < 0 || kind >= KINDS) {
            throw new IllegalArgumentException("a KIND is 0 to 6");
        }
    }

    private static void requireChunk(int chunk) {
        if (chunk < 0 || chunk >= CHUNKS) {
            throw new IndexOutOfBoundsException("there is no such CHUNK");
        }
    }

    private static void requireSide(int side) {
        if (side < 0 || side >= SIDES) {
            throw new IllegalArgumentException("a SIDE is 0 to 5");
        }
    }

    private static void requireTicks(int ticks) {
        if (ticks < 1 || ticks > MOST_TICKS) {
            throw new IllegalArgumentException("ticks are 1 to 12");
        }
    }

    private void requireHere(int x, int y, int z) {
        if (grid.stateAt(x, y, z) == BEYOND) {
            throw new IllegalStateException("the cell is BEYOND");
        }
    }

    private void requireColumnsHere(int x, int z, int w, int d) {
        if (!grid.areColumnsHere(x, z, w, d)) {
            throw new IllegalStateException("a cell of the box is BEYOND");
        }
    }

    private void requireClip() {
        if (clip.isNone()) {
            throw new IllegalStateException("there is no CLIP");
        }
    }

    // ---- cells and states

    private static boolean isInWorld(int x, int y, int z) {
        return x >= 0 && x < WIDTH && y >= 0 && y < HEIGHT && z >= 0 && z < WIDTH;
    }

    /** Counts y by y, in each z by z, in each x by x: the order in which the document goes on. */
    private static int indexOf(int x, int y, int z) {
        return (y * WIDTH + z) * WIDTH + x;
    }

    private static int xOf(int index) {
        return index % WIDTH;
    }

    private static int yOf(int index) {
        return index / LAYER_CELLS;
    }

    private static int zOf(int index) {
        return index / WIDTH % WIDTH;
    }

    private static int chunkOf(int x, int z) {
        return z / CHUNK_WIDTH * CHUNKS_IN_ROW + x / CHUNK_WIDTH;
    }

    private static int firstX(int chunk) {
        return chunk % CHUNKS_IN_ROW * CHUNK_WIDTH;
    }

    private static int firstZ(int chunk) {
        return chunk / CHUNKS_IN_ROW * CHUNK_WIDTH;
    }

    private static int stateOf(int kind) {
        return kind == WATER ? SPRING : kind;
    }

    private static int waterOf(int level) {
        return WATER + LEVEL_UNIT * level;
    }

    private static int kindOf(int state) {
        return state % LEVEL_UNIT;
    }

    private static int levelOf(int state) {
        return state / LEVEL_UNIT;
    }

    private static boolean isFirm(int state) {
        return state >= STONE && state <= LEAF;
    }

    private static boolean isThick(int state) {
        int kind = kindOf(state);
        return kind == LEAF || kind == WATER;
    }

    private static boolean isClear(int state) {
        return state == AIR || state == GLASS || isThick(state);
    }

    /** The cells of the world, and which CHUNKS are AWAY. */
    private static final class Grid {
        private final int[] states = new int[CELLS];
        private int awayChunks = 0;

        int awaySet() {
            return awayChunks;
        }

        boolean isAway(int chunk) {
            return (awayChunks >> chunk & 1) == 1;
        }

        void mark(int chunk, boolean isAway) {
            int bit = 1 << chunk;
            awayChunks = isAway ? awayChunks | bit : awayChunks & ~bit;
        }

        boolean areColumnsHere(int x, int z, int w, int d) {
            for (int cellZ = z; cellZ < z + d; cellZ++) {
                for (int cellX = x; cellX < x + w; cellX++) {
                    if (isAway(chunkOf(cellX, cellZ))) {
                        return false;
                    }
                }
            }
            return true;
        }

        int stateAt(int x, int y, int z) {
            if (!isInWorld(x, y, z) || isAway(chunkOf(x, z))) {
                return BEYOND;
            }
            return states[indexOf(x, y, z)];
        }

        int stateOfCell(int index) {
            return isAway(chunkOf(xOf(index), zOf(index))) ? BEYOND : states[index];
        }

        /** The state that is kept for a cell, also while its CHUNK is AWAY. */
        int keptAt(int x, int y, int z) {
            return isInWorld(x, y, z) ? states[indexOf(x, y, z)] : BEYOND;
        }

        void put(int x, int y, int z, int state) {
            if (isInWorld(x, y, z)) {
                states[indexOf(x, y, z)] = state;
            }
        }

        void takeOver(Grid other) {
            System.arraycopy(other.states, 0, states, 0, CELLS);
            awayChunks = other.awayChunks;
        }

        /** Lets each cell have the state of another row; returns whether one is new. */
        boolean change(int[] row) {
            boolean isNew = false;
            for (int index = 0; index < CELLS && index < row.length; index++) {
                isNew = isNew || states[index] != row[index];
                states[index] = row[index];
            }
            return isNew;
        }

        int countOf(int kind) {
            int cells = 0;
            for (int index = 0; index < CELLS; index++) {
                if (kindOf(stateOfCell(index)) == kind) {
                    cells++;
                }
            }
            return cells;
        }

        int countSolid() {
            int cells = 0;
            for (int kind = STONE; kind <= WATER; kind++) {
                cells += countOf(kind);
            }
            return cells;
        }

        int countClear() {
            return countOf(AIR) + countOf(GLASS) + countOf(LEAF) + countOf(WATER);
        }
    }

    /** How SAND falls and WATER flows. */
    private static final class Flow {
        private final int[] next = new int[CELLS];

        /** Lets one tick go by; returns whether it changed anything. */
        boolean pass(Grid grid) {
            // What falls comes to rest in a cell that was AIR or WATER: so a fall always tells.
            boolean isFallen = dropSand(grid);
            boolean isFlown = flowWater(grid);
            return isFallen || isFlown;
        }

        private static boolean dropSand(Grid grid) {
            boolean isFallen = false;
            for (int index = LAYER_CELLS; index < CELLS; index++) {
                int below = index - LAYER_CELLS;
                if (grid.stateOfCell(index) == SAND && canSink(grid.stateOfCell(below))) {
                    grid.states[below] = SAND;
                    grid.states[index] = AIR;
                    isFallen = true;
                }
            }
            return isFallen;
        }

        private static boolean canSink(int below) {
            return below == AIR || kindOf(below) == WATER;
        }

        private boolean flowWater(Grid grid) {
            for (int index = 0; index < CELLS; index++) {
                next[index] = canFlow(grid.stateOfCell(index))
                        ? flowAt(grid, xOf(index), yOf(index), zOf(index))
                        : grid.states[index];
            }
            return grid.change(next);
        }

        private static boolean canFlow(int state) {
            return state == AIR || kindOf(state) == WATER && state != SPRING;
        }

        private static int flowAt(Grid grid, int x, int y, int z) {
            int springs = 0;
            int greatest = 0;
            for (int side = 0; side < SIDES; side++) {
                if (side != BELOW && side != ABOVE) {
                    int cellX = x + STEP_X[side];
                    int cellZ = z + STEP_Z[side];
                    int state = grid.stateAt(cellX, y, cellZ);
                    if (state == SPRING) {
                        springs++;
                    }
                    if (bearsWater(grid.stateAt(cellX, y - 1, cellZ))) {
                        greatest = Math.max(greatest, levelOf(state));
                    }
                }
            }
            if (springs >= 2 && bearsWater(grid.stateAt(x, y - 1, z))) {
                return SPRING;
            }
            if (kindOf(grid.stateAt(x, y + 1, z)) == WATER) {
                return waterOf(FALLING_LEVEL);
            }
            return greatest > 1 ? waterOf(greatest - 1) : AIR;
        }

        /** Whether WATER on such a cell goes on to the sides. */
        private static boolean bearsWater(int below) {
            return isFirm(below) || below == BEYOND || below == SPRING;
        }
    }

    /** SKY and GLOW of all cells of a grid. */
    private static final class Lights {
        private final int[] sky = new int[CELLS];
        private final int[] glow = new int[CELLS];

        int skyAt(int x, int y, int z) {
            return isInWorld(x, y, z) ? sky[indexOf(x, y, z)] : 0;
        }

        int glowAt(int x, int y, int z) {
            return isInWorld(x, y, z) ? glow[indexOf(x, y, z)] : 0;
        }

        /** Light only gets less on its way: so the cells are gone through from the brightest on. */
        void flood(Grid grid) {
            kindle(grid);
            for (int light = SKY_LIGHT; light > 1; light--) {
                for (int index = 0; index < CELLS; index++) {
                    if (sky[index] == light) {
                        spread(grid, sky, index);
                    }
                    if (glow[index] == light) {
                        spread(grid, glow, index);
                    }
                }
            }
        }

        /** Leaves light in the cells alone that have it of themselves. */
        private void kindle(Grid grid) {
            for (int z = 0; z < WIDTH; z++) {
                for (int x = 0; x < WIDTH; x++) {
                    boolean isOpen = true;
                    for (int y = HEIGHT - 1; y >= 0; y--) {
                        int state = grid.stateAt(x, y, z);
                        isOpen = isOpen && (state == AIR || state == GLASS);
                        sky[indexOf(x, y, z)] = isOpen ? SKY_LIGHT : 0;
                        glow[indexOf(x, y, z)] = state == LAMP ? LAMP_LIGHT : 0;
                    }
                }
            }
        }

        private static void spread(Grid grid, int[] row, int from) {
            for (int side = 0; side < SIDES; side++) {
                int x = xOf(from) + STEP_X[side];
                int y = yOf(from) + STEP_Y[side];
                int z = zOf(from) + STEP_Z[side];
                int state = grid.stateAt(x, y, z);
                if (isClear(state)) {
                    int left = isThick(state) ? row[from] - 2 : row[from] - 1;
                    int index = indexOf(x, y, z);
                    row[index] = Math.max(row[index], left);
                }
            }
        }

        private int lightOf(int index) {
            return Math.max(sky[index], glow[index]);
        }

        int countBelow(Grid grid, int light) {
            int cells = 0;
            for (int index = 0; index < CELLS; index++) {
                if (isClear(grid.stateOfCell(index)) && lightOf(index) < light) {
                    cells++;
                }
            }
            return cells;
        }

        /** The LIGHT of all cells that are CLEAR, added up. */
        int sum(Grid grid) {
            int sum = 0;
            for (int index = 0; index < CELLS; index++) {
                if (isClear(grid.stateOfCell(index))) {
                    sum += lightOf(index);
                }
            }
            return sum;
        }
    }

    /** The RUNS of one CHUNK. */
    private static final class Runs {
        private final int[] runStates = new int[CHUNK_CELLS];
        private final int[] lengths = new int[CHUNK_CELLS];
        private int size = 0;

        int size() {
            return size;
        }

        void read(Grid grid, int chunk) {
            size = 0;
            int startX = firstX(chunk);
            int startZ = firstZ(chunk);
            for (int y = 0; y < HEIGHT; y++) {
                for (int z = startZ; z < startZ + CHUNK_WIDTH; z++) {
                    for (int x = startX; x < startX + CHUNK_WIDTH; x++) {
                        append(grid.keptAt(x, y, z));
                    }
                }
            }
        }

        private void append(int state) {
            if (size > 0 && runStates[size - 1] == state) {
                lengths[size - 1]++;
            } else if (size < CHUNK_CELLS) {
                runStates[size] = state;
                lengths[size] = 1;
                size++;
            }
        }

        int number(int run, int what) {
            if (run < 0 || run >= size) {
                return 0;
            }
            switch (what) {
                case 0:
                    return kindOf(runStates[run]);
                case 1:
                    return levelOf(runStates[run]);
                default:
                    return lengths[run];
            }
        }
    }

    /** The FACES of one CHUNK to one SIDE, laid together in QUADS. */
    private static final class Mesh {
        /** Of one LAYER, v by v: the KINDS of the FACES that are in no QUAD yet; AIR is none. */
        private final int[] open = new int[HEIGHT * CHUNK_WIDTH];
        /** QUAD by QUAD what quad() answers for each `what`. */
        private final int[] numbers = new int[CHUNK_CELLS * QUAD_NUMBERS];
        private int faces = 0;
        private int quads = 0;
        private int axis = 0;
        private int startU = 0;
        private int startV = 0;
        private int sizeV = 0;

        int faceCount() {
            return faces;
        }

        int quadCount() {
            return quads;
        }

        int number(int quad, int what) {
            if (quad < 0 || quad >= quads || what < 0 || what >= QUAD_NUMBERS) {
                return 0;
            }
            return numbers[quad * QUAD_NUMBERS + what];
        }

        void lay(Grid grid, int chunk, int side) {
            faces = 0;
            quads = 0;
            axis = side / 2;
            startU = axis == 0 ? firstZ(chunk) : firstX(chunk);
            startV = axis == 1 ? firstZ(chunk) : 0;
            sizeV = axis == 1 ? CHUNK_WIDTH : HEIGHT;
            int startLayer = axis == 0 ? firstX(chunk) : axis == 1 ? 0 : firstZ(chunk);
            int layers = axis == 1 ? HEIGHT : CHUNK_WIDTH;
            for (int layer = startLayer; layer < startLayer + layers; layer++) {
                readLayer(grid, side, layer);
                coverLayer(layer);
            }
        }

        private void readLayer(Grid grid, int side, int layer) {
            for (int v = 0; v < sizeV; v++) {
                for (int u = 0; u < CHUNK_WIDTH; u++) {
                    int worldU = startU + u;
                    int worldV = startV + v;
                    int x = axis == 0 ? layer : worldU;
                    int y = axis == 1 ? layer : worldV;
                    int z = axis == 0 ? worldU : axis == 1 ? worldV : layer;
                    int kind = faceKind(grid, x, y, z, side);
                    open[v * CHUNK_WIDTH + u] = kind;
                    if (kind != AIR) {
                        faces++;
                    }
                }
            }
        }

        /** The KIND of a cell's FACE to a SIDE; AIR if it has none. */
        private static int faceKind(Grid grid, int x, int y, int z, int side) {
            int kind = kindOf(grid.stateAt(x, y, z));
            if (kind == AIR || kind == BEYOND) {
                return AIR;
            }
            if (side == ABOVE && y == HEIGHT - 1) {
                return kind;
            }
            int beside = grid.stateAt(x + STEP_X[side], y + STEP_Y[side], z + STEP_Z[side]);
            return isClear(beside) && kindOf(beside) != kind ? kind : AIR;
        }

        private void coverLayer(int layer) {
            for (int v = 0; v < sizeV; v++) {
                for (int u = 0; u < CHUNK_WIDTH; u++) {
                    int kind = open[v * CHUNK_WIDTH + u];
                    if (kind != AIR) {
                        int wide = widthOf(kind, u, v);
                        int high = heightOf(kind, u, v, wide);
                        take(u, v, wide, high);
                        note(kind, layer, startU + u, startV + v, wide, high);
                    }
                }
            }
        }

        private int widthOf(int kind, int u, int v) {
            int wide = 1;
            while (u + wide < CHUNK_WIDTH && open[v * CHUNK_WIDTH + u + wide] == kind) {
                wide++;
            }
            return wide;
        }

        private int heightOf(int kind, int u, int v, int wide) {
            int high = 1;
            while (v + high < sizeV && isRowOf(kind, u, v + high, wide)) {
                high++;
            }
            return high;
        }

        private boolean isRowOf(int kind, int u, int v, int wide) {
            for (int i = u; i < u + wide; i++) {
                if (open[v * CHUNK_WIDTH + i] != kind) {
                    return false;
                }
            }
            return true;
        }

        private void take(int u, int v, int wide, int high) {
            for (int j = v; j < v + high; j++) {
                for (int i = u; i < u + wide; i++) {
                    open[j * CHUNK_WIDTH + i] = AIR;
                }
            }
        }

        private void note(int kind, int layer, int u, int v, int wide, int high) {
            if (quads < CHUNK_CELLS) {
                int start = quads * QUAD_NUMBERS;
                numbers[start] = kind;
                numbers[start + 1] = layer;
                numbers[start + 2] = u;
                numbers[start + 3] = v;
                numbers[start + 4] = wide;
                numbers[start + 5] = high;
                quads++;
            }
        }
    }

    /** THE CLIP; its sizes are 0 as long as there is none. */
    private static final class Clip {
        private final int[] states = new int[MOST_COPIED * MOST_COPIED * MOST_COPIED];
        private final int[] turned = new int[MOST_COPIED * MOST_COPIED * MOST_COPIED];
        private int w = 0;
        private int h = 0;
        private int d = 0;

        boolean isNone() {
            return w == 0;
        }

        int width() {
            return w;
        }

        int height() {
            return h;
        }

        int depth() {
            return d;
        }

        void resize(int newW, int newH, int newD) {
            w = newW;
            h = newH;
            d = newD;
        }

        private static int placeOf(int i, int j, int k) {
            return (j * MOST_COPIED + k) * MOST_COPIED + i;
        }

        private static boolean isPlace(int i, int j, int k) {
            return i >= 0 && i < MOST_COPIED
                    && j >= 0 && j < MOST_COPIED
                    && k >= 0 && k < MOST_COPIED;
        }

        int stateAt(int i, int j, int k) {
            return isPlace(i, j, k) ? states[placeOf(i, j, k)] : AIR;
        }

        void put(int i, int j, int k, int state) {
            if (isPlace(i, j, k)) {
                states[placeOf(i, j, k)] = state;
            }
        }

        void rotate() {
            for (int j = 0; j < h; j++) {
                for (int k = 0; k < d; k++) {
                    for (int i = 0; i < w; i++) {
                        turned[placeOf(d - 1 - k, j, i)] = states[placeOf(i, j, k)];
                    }
                }
            }
            System.arraycopy(turned, 0, states, 0, states.length);
            resize(d, h, w);
        }
    }
}
