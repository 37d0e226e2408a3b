import java.util.ArrayList;
import java.util.List;

/**
 * The document once more, as plainly as it can be told and by other ways than CobbleWorld's: AWAY
 * CHUNKS are really kept as RUNS, light is tried until nothing changes, and so on. It is slow.
 */
final class WorldModel {
    private static final int AIR = 0;
    private static final int GLASS = 2;
    private static final int LAMP = 3;
    private static final int SAND = 4;
    private static final int LEAF = 5;
    private static final int WATER = 6;
    private static final int[][] STEPS = {
        {-1, 0, 0}, {1, 0, 0}, {0, -1, 0}, {0, 1, 0}, {0, 0, -1}, {0, 0, 1}};
    private static final int[] LEVEL_SIDES = {0, 1, 4, 5};

    /** A cell; null stands for one that is BEYOND. */
    record Cell(int kind, int level) {
        boolean isFirm() {
            return kind >= 1 && kind <= 5;
        }

        boolean isThick() {
            return kind == LEAF || kind == WATER;
        }

        boolean isClear() {
            return kind == AIR || kind == GLASS || isThick();
        }

        boolean isSpring() {
            return kind == WATER && level == 8;
        }
    }

    record Run(Cell cell, int length) {
    }

    record Quad(int kind, int layer, int u, int v, int us, int vs) {
        int number(int what) {
            return new int[] {kind, layer, u, v, us, vs}[what];
        }
    }

    private Cell[][][] cells = new Cell[16][12][16];
    private final List<List<Run>> kept = new ArrayList<>();
    private Cell[][][] clip = null;
    private int ticks = 0;

    WorldModel() {
        for (int x = 0; x < 16; x++) {
            for (int y = 0; y < 12; y++) {
                for (int z = 0; z < 16; z++) {
                    cells[x][y][z] = new Cell(AIR, 0);
                }
            }
        }
        for (int chunk = 0; chunk < 16; chunk++) {
            kept.add(null);
        }
    }

    // ---- what is set

    int set(int x, int y, int z, int kind) {
        needCell(x, y, z);
        needKind(kind);
        needHere(x, y, z);
        int before = cells[x][y][z].kind;
        cells[x][y][z] = fresh(kind);
        return before;
    }

    int fill(int x, int y, int z, int w, int h, int d, int kind) {
        needBox(x, y, z, w, h, d, 16);
        needKind(kind);
        if (isBoxBeyond(x, z, w, d)) {
            throw new IllegalStateException();
        }
        int others = 0;
        for (int i = 0; i < w; i++) {
            for (int j = 0; j < h; j++) {
                for (int k = 0; k < d; k++) {
                    others += set(x + i, y + j, z + k, kind) == kind ? 0 : 1;
                }
            }
        }
        return others;
    }

    int landscape(int seed) {
        need(seed >= 0 && seed <= 999);
        for (int x = 0; x < 16; x++) {
            for (int z = 0; z < 16; z++) {
                int t = 2 + (7 * x + 13 * z + x * z + seed) % 6;
                for (int y = 0; y < 12; y++) {
                    if (cells[x][y][z] == null) {
                        continue;
                    }
                    int kind = AIR;
                    if (y < t - 1) {
                        kind = 1;
                    } else if (y == t - 1) {
                        kind = t < 4 ? SAND : 1;
                    } else if (t < 4 && y <= 3) {
                        kind = WATER;
                    } else if (t == 6 && y == t) {
                        kind = LEAF;
                    }
                    cells[x][y][z] = fresh(kind);
                }
            }
        }
        return count(1) + count(2) + count(3) + count(4) + count(5) + count(6);
    }

    int send(int chunk, boolean isAway) {
        List<Run> row = runRow(chunk);
        if (isAway) {
            kept.set(chunk, row);
            spell(chunk, List.of(new Run(null, 192)));
        } else {
            kept.set(chunk, null);
            spell(chunk, row);
        }
        return row.size();
    }

    private void spell(int chunk, List<Run> row) {
        int place = 0;
        for (Run run : row) {
            for (int i = 0; i < run.length; i++) {
                int x = chunk % 4 * 4 + place % 4;
                int z = chunk / 4 * 4 + place / 4 % 4;
                cells[x][place / 16][z] = run.cell;
                place++;
            }
        }
    }

    int tick(int count) {
        need(count >= 1 && count <= 12);
        for (int i = 0; i < count; i++) {
            pass();
        }
        ticks += count;
        return count(WATER);
    }

    private void pass() {
        for (int y = 1; y < 12; y++) {
            for (int z = 0; z < 16; z++) {
                for (int x = 0; x < 16; x++) {
                    if (isKind(at(x, y, z), SAND)
                            && (isKind(at(x, y - 1, z), AIR) || isKind(at(x, y - 1, z), WATER))) {
                        cells[x][y - 1][z] = cells[x][y][z];
                        cells[x][y][z] = fresh(AIR);
                    }
                }
            }
        }
        Cell[][][] after = new Cell[16][12][16];
        for (int x = 0; x < 16; x++) {
            for (int y = 0; y < 12; y++) {
                for (int z = 0; z < 16; z++) {
                    after[x][y][z] = flowed(x, y, z);
                }
            }
        }
        cells = after;
    }

    private Cell flowed(int x, int y, int z) {
        Cell cell = at(x, y, z);
        if (cell == null || cell.kind != AIR && cell.kind != WATER || cell.isSpring()) {
            return cell;
        }
        List<Integer> levels = new ArrayList<>();
        int springs = 0;
        for (int side : LEVEL_SIDES) {
            Cell beside = at(x + STEPS[side][0], y, z + STEPS[side][2]);
            springs += beside != null && beside.isSpring() ? 1 : 0;
            if (isKind(beside, WATER) && isFloor(x + STEPS[side][0], y - 1, z + STEPS[side][2])) {
                levels.add(beside.level);
            }
        }
        if (springs >= 2 && isFloor(x, y - 1, z)) {
            return fresh(WATER);
        }
        if (isKind(at(x, y + 1, z), WATER)) {
            return new Cell(WATER, 7);
        }
        int level = levels.stream().mapToInt(a -> a).max().orElse(1) - 1;
        return level == 0 ? fresh(AIR) : new Cell(WATER, level);
    }

    private boolean isFloor(int x, int y, int z) {
        Cell cell = at(x, y, z);
        return cell == null || cell.isFirm() || cell.isSpring();
    }

    int ticks() {
        return ticks;
    }

    // ---- what is where

    int kind(int x, int y, int z) {
        needCell(x, y, z);
        return cells[x][y][z] == null ? -1 : cells[x][y][z].kind;
    }

    int level(int x, int y, int z) {
        return kind(x, y, z) == WATER ? cells[x][y][z].level : 0;
    }

    int top(int x, int z) {
        needCell(x, 0, z);
        int top = -1;
        for (int y = 0; y < 12; y++) {
            if (kind(x, y, z) > AIR) {
                top = y;
            }
        }
        return top;
    }

    int count(int kind) {
        needKind(kind);
        int count = 0;
        for (Cell cell : all()) {
            count += cell.kind == kind ? 1 : 0;
        }
        return count;
    }

    int look(int x, int y, int z, int side) {
        needCell(x, y, z);
        need(side >= 0 && side <= 5);
        int steps = 0;
        Cell seen;
        do {
            steps++;
            seen = at(x + steps * STEPS[side][0], y + steps * STEPS[side][1],
                    z + steps * STEPS[side][2]);
        } while (isKind(seen, AIR));
        return seen == null ? 0 : steps;
    }

    int away() {
        int set = 0;
        for (int chunk = 0; chunk < 16; chunk++) {
            set += kept.get(chunk) == null ? 0 : (int) Math.pow(2, chunk);
        }
        return set;
    }

    int runs(int chunk) {
        return runRow(chunk).size();
    }

    int run(int chunk, int run, int what) {
        List<Run> row = runRow(chunk);
        needIndex(run >= 0 && run < row.size());
        need(what >= 0 && what <= 2);
        Run found = row.get(run);
        return what == 0 ? found.cell.kind : what == 1 ? found.cell.level : found.length;
    }

    private List<Run> runRow(int chunk) {
        needIndex(chunk >= 0 && chunk < 16);
        if (kept.get(chunk) != null) {
            return kept.get(chunk);
        }
        List<Run> row = new ArrayList<>();
        for (int y = 0; y < 12; y++) {
            for (int z = chunk / 4 * 4; z < chunk / 4 * 4 + 4; z++) {
                for (int x = chunk % 4 * 4; x < chunk % 4 * 4 + 4; x++) {
                    int last = row.size() - 1;
                    if (last >= 0 && row.get(last).cell.equals(cells[x][y][z])) {
                        row.set(last, new Run(cells[x][y][z], row.get(last).length + 1));
                    } else {
                        row.add(new Run(cells[x][y][z], 1));
                    }
                }
            }
        }
        return row;
    }

    // ---- light and faces

    int sky(int x, int y, int z) {
        needCell(x, y, z);
        needHere(x, y, z);
        return light(true)[x][y][z];
    }

    int glow(int x, int y, int z) {
        needCell(x, y, z);
        needHere(x, y, z);
        return light(false)[x][y][z];
    }

    int dark(int light) {
        need(light >= 1 && light <= 15);
        return (int) clearLights().stream().filter(a -> a < light).count();
    }

    double brightness() {
        List<Integer> lights = clearLights();
        double sum = lights.stream().mapToInt(a -> a).sum();
        return lights.isEmpty() ? 0 : sum / lights.size();
    }

    private List<Integer> clearLights() {
        int[][][] sky = light(true);
        int[][][] glow = light(false);
        List<Integer> lights = new ArrayList<>();
        for (int x = 0; x < 16; x++) {
            for (int y = 0; y < 12; y++) {
                for (int z = 0; z < 16; z++) {
                    if (cells[x][y][z] != null && cells[x][y][z].isClear()) {
                        lights.add(Math.max(sky[x][y][z], glow[x][y][z]));
                    }
                }
            }
        }
        return lights;
    }

    /** Starts from darkness and applies the rule to all cells until none changes. */
    private int[][][] light(boolean isSky) {
        int[][][] light = new int[16][12][16];
        boolean isChanged = true;
        while (isChanged) {
            isChanged = false;
            for (int x = 0; x < 16; x++) {
                for (int y = 0; y < 12; y++) {
                    for (int z = 0; z < 16; z++) {
                        int now = lightBy(light, x, y, z, isSky);
                        isChanged |= now != light[x][y][z];
                        light[x][y][z] = now;
                    }
                }
            }
        }
        return light;
    }

    private int lightBy(int[][][] light, int x, int y, int z, boolean isSky) {
        Cell cell = at(x, y, z);
        if (cell == null) {
            return 0;
        }
        if (isSky && isOpen(x, y, z)) {
            return 15;
        }
        if (!isSky && cell.kind == LAMP) {
            return 12;
        }
        if (!cell.isClear()) {
            return 0;
        }
        int greatest = 0;
        for (int[] step : STEPS) {
            if (at(x + step[0], y + step[1], z + step[2]) != null) {
                greatest = Math.max(greatest, light[x + step[0]][y + step[1]][z + step[2]]);
            }
        }
        return Math.max(0, greatest - 1 - (cell.isThick() ? 1 : 0));
    }

    private boolean isOpen(int x, int y, int z) {
        for (int above = y; above < 12; above++) {
            if (!isKind(at(x, above, z), AIR) && !isKind(at(x, above, z), GLASS)) {
                return false;
            }
        }
        return true;
    }

    int faces(int chunk, int side) {
        needIndex(chunk >= 0 && chunk < 16);
        need(side >= 0 && side <= 5);
        int count = 0;
        for (int x = chunk % 4 * 4; x < chunk % 4 * 4 + 4; x++) {
            for (int y = 0; y < 12; y++) {
                for (int z = chunk / 4 * 4; z < chunk / 4 * 4 + 4; z++) {
                    count += hasFace(x, y, z, side) ? 1 : 0;
                }
            }
        }
        return count;
    }

    private boolean hasFace(int x, int y, int z, int side) {
        Cell cell = at(x, y, z);
        if (cell == null || cell.kind == AIR) {
            return false;
        }
        if (y == 11 && side == 3) {
            return true;
        }
        Cell beside = at(x + STEPS[side][0], y + STEPS[side][1], z + STEPS[side][2]);
        return isKind(beside, AIR)
                || beside != null && beside.isClear() && beside.kind != cell.kind;
    }

    int quads(int chunk, int side) {
        return laid(chunk, side).size();
    }

    int quad(int chunk, int side, int quad, int what) {
        needIndex(chunk >= 0 && chunk < 16);
        if (side >= 0 && side <= 5) {
            needIndex(quad >= 0 && quad < laid(chunk, side).size());
        }
        need(side >= 0 && side <= 5 && what >= 0 && what <= 5);
        return laid(chunk, side).get(quad).number(what);
    }

    private List<Quad> laid(int chunk, int side) {
        needIndex(chunk >= 0 && chunk < 16);
        need(side >= 0 && side <= 5);
        int[] firsts = {chunk % 4 * 4, 0, chunk / 4 * 4};
        int[] sizes = {4, 12, 4};
        int layerAxis = side / 2;
        int uAxis = side < 2 ? 2 : 0;
        int vAxis = side == 2 || side == 3 ? 2 : 1;
        List<Quad> quads = new ArrayList<>();
        boolean[][][] isLaid = new boolean[16][12][16];
        int[] at = new int[3];
        for (int layer = 0; layer < sizes[layerAxis]; layer++) {
            for (int v = 0; v < sizes[vAxis]; v++) {
                for (int u = 0; u < sizes[uAxis]; u++) {
                    at[layerAxis] = firsts[layerAxis] + layer;
                    at[uAxis] = firsts[uAxis] + u;
                    at[vAxis] = firsts[vAxis] + v;
                    if (!isFree(at, uAxis, 0, vAxis, 0, side, isLaid, -1)) {
                        continue;
                    }
                    int kind = cells[at[0]][at[1]][at[2]].kind;
                    int us = 1;
                    while (u + us < sizes[uAxis]
                            && isFree(at, uAxis, us, vAxis, 0, side, isLaid, kind)) {
                        us++;
                    }
                    int vs = 1;
                    while (v + vs < sizes[vAxis]
                            && isRowFree(at, uAxis, us, vAxis, vs, side, isLaid, kind)) {
                        vs++;
                    }
                    for (int i = 0; i < us; i++) {
                        for (int j = 0; j < vs; j++) {
                            int[] c = at.clone();
                            c[uAxis] += i;
                            c[vAxis] += j;
                            isLaid[c[0]][c[1]][c[2]] = true;
                        }
                    }
                    quads.add(new Quad(kind, at[layerAxis], at[uAxis], at[vAxis], us, vs));
                }
            }
        }
        return quads;
    }

    private boolean isRowFree(int[] at, int uAxis, int us, int vAxis, int j, int side,
            boolean[][][] isLaid, int kind) {
        for (int i = 0; i < us; i++) {
            if (!isFree(at, uAxis, i, vAxis, j, side, isLaid, kind)) {
                return false;
            }
        }
        return true;
    }

    /** Whether there is a FACE in no QUAD yet, i and j further on; kind -1 is any. */
    private boolean isFree(int[] at, int uAxis, int i, int vAxis, int j, int side,
            boolean[][][] isLaid, int kind) {
        int[] c = at.clone();
        c[uAxis] += i;
        c[vAxis] += j;
        return hasFace(c[0], c[1], c[2], side) && !isLaid[c[0]][c[1]][c[2]]
                && (kind == -1 || cells[c[0]][c[1]][c[2]].kind == kind);
    }

    double gain() {
        double faces = 0;
        double quads = 0;
        for (int chunk = 0; chunk < 16; chunk++) {
            for (int side = 0; side < 6; side++) {
                faces += faces(chunk, side);
                quads += quads(chunk, side);
            }
        }
        return quads == 0 ? 0 : faces / quads;
    }

    // ---- boxes

    int copy(int x, int y, int z, int w, int h, int d) {
        needBox(x, y, z, w, h, d, 8);
        if (isBoxBeyond(x, z, w, d)) {
            throw new IllegalStateException();
        }
        clip = new Cell[w][h][d];
        int solid = 0;
        for (int i = 0; i < w; i++) {
            for (int j = 0; j < h; j++) {
                for (int k = 0; k < d; k++) {
                    clip[i][j][k] = cells[x + i][y + j][z + k];
                    solid += clip[i][j][k].kind == AIR ? 0 : 1;
                }
            }
        }
        return solid;
    }

    int turn() {
        needClip();
        int w = clip.length;
        int h = clip[0].length;
        int d = clip[0][0].length;
        Cell[][][] turned = new Cell[d][h][w];
        for (int i = 0; i < w; i++) {
            for (int j = 0; j < h; j++) {
                for (int k = 0; k < d; k++) {
                    turned[d - 1 - k][j][i] = clip[i][j][k];
                }
            }
        }
        clip = turned;
        return d;
    }

    int paste(int x, int y, int z, boolean isAir) {
        needClip();
        int w = clip.length;
        int h = clip[0].length;
        int d = clip[0][0].length;
        needBox(x, y, z, w, h, d, 8);
        need(!isBoxBeyond(x, z, w, d));
        int changed = 0;
        for (int i = 0; i < w; i++) {
            for (int j = 0; j < h; j++) {
                for (int k = 0; k < d; k++) {
                    Cell cell = clip[i][j][k];
                    if (cell.kind != AIR || isAir) {
                        changed += cell.equals(cells[x + i][y + j][z + k]) ? 0 : 1;
                        cells[x + i][y + j][z + k] = cell;
                    }
                }
            }
        }
        return changed;
    }

    // ---- what would be

    int darkWith(int x, int y, int z, int kind) {
        needCell(x, y, z);
        needKind(kind);
        needHere(x, y, z);
        Cell before = cells[x][y][z];
        cells[x][y][z] = fresh(kind);
        int dark = dark(8);
        cells[x][y][z] = before;
        return dark;
    }

    int calmIn(int most) {
        need(most >= 1 && most <= 12);
        Cell[][][] saved = saved();
        int calm = -1;
        for (int i = 0; i <= most && calm == -1; i++) {
            Cell[][][] before = saved();
            pass();
            calm = java.util.Arrays.deepEquals(before, cells) ? i : -1;
        }
        cells = saved;
        return calm;
    }

    int waterIn(int count) {
        need(count >= 1 && count <= 12);
        Cell[][][] saved = saved();
        for (int i = 0; i < count; i++) {
            pass();
        }
        int water = count(WATER);
        cells = saved;
        return water;
    }

    private Cell[][][] saved() {
        Cell[][][] saved = new Cell[16][12][16];
        for (int x = 0; x < 16; x++) {
            for (int y = 0; y < 12; y++) {
                saved[x][y] = cells[x][y].clone();
            }
        }
        return saved;
    }

    long digest() {
        List<Integer> numbers = new ArrayList<>(List.of(ticks(), away()));
        for (int chunk = 0; chunk < 16; chunk++) {
            numbers.add(runs(chunk));
            for (int run = 0; run < runs(chunk); run++) {
                numbers.addAll(List.of(run(chunk, run, 0), run(chunk, run, 1), run(chunk, run, 2)));
            }
        }
        for (int kind = 0; kind <= 6; kind++) {
            numbers.add(count(kind));
        }
        numbers.addAll(List.of(dark(4), dark(8), dark(12)));
        for (int chunk = 0; chunk < 16; chunk++) {
            numbers.addAll(List.of(
                    faces(chunk, 3), quads(chunk, 3), faces(chunk, 0), quads(chunk, 0)));
        }
        for (int x = 0; x < 16; x++) {
            numbers.add(top(x, x));
        }
        numbers.add(waterIn(3));
        long d = 58054;
        for (int number : numbers) {
            d = d * 31 + number;
        }
        return d;
    }

    // ---- cells and wrong inputs

    private static Cell fresh(int kind) {
        return new Cell(kind, kind == WATER ? 8 : 0);
    }

    private static boolean isKind(Cell cell, int kind) {
        return cell != null && cell.kind == kind;
    }

    private static boolean isThere(long x, long y, long z) {
        return 0 <= x && x <= 15 && 0 <= y && y <= 11 && 0 <= z && z <= 15;
    }

    private Cell at(int x, int y, int z) {
        return isThere(x, y, z) ? cells[x][y][z] : null;
    }

    private List<Cell> all() {
        List<Cell> all = new ArrayList<>();
        for (Cell[][] slice : cells) {
            for (Cell[] row : slice) {
                for (Cell cell : row) {
                    if (cell != null) {
                        all.add(cell);
                    }
                }
            }
        }
        return all;
    }

    private boolean isBoxBeyond(int x, int z, int w, int d) {
        for (int i = x; i < x + w; i++) {
            for (int k = z; k < z + d; k++) {
                if (cells[i][0][k] == null) {
                    return true;
                }
            }
        }
        return false;
    }

    private static void need(boolean isRight) {
        if (!isRight) {
            throw new IllegalArgumentException();
        }
    }

    private static void needIndex(boolean isRight) {
        if (!isRight) {
            throw new IndexOutOfBoundsException();
        }
    }

    private static void needCell(int x, int y, int z) {
        needIndex(isThere(x, y, z));
    }

    private static void needKind(int kind) {
        need(kind >= 0 && kind <= 6);
    }

    private static void needBox(int x, int y, int z, int w, int h, int d, int most) {
        needIndex(w >= 1 && w <= most && h >= 1 && h <= most && d >= 1 && d <= most);
        needIndex(isThere(x, y, z)
                && isThere((long) x + w - 1, (long) y + h - 1, (long) z + d - 1));
    }

    private void needHere(int x, int y, int z) {
        if (cells[x][y][z] == null) {
            throw new IllegalStateException();
        }
    }

    private void needClip() {
        if (clip == null) {
            throw new IllegalStateException();
        }
    }
}
