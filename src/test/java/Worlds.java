/** Worlds that tests begin with. The same calls make each of them anew, far fewer than 512. */
final class Worlds {
    /** The first and the last cell of each row, in x, y and z. */
    static final int[][] CORNERS = {{0, 0, 0}, {15, 0, 0}, {0, 11, 0}, {15, 11, 0},
        {0, 0, 15}, {15, 0, 15}, {0, 11, 15}, {15, 11, 15}};
    /** Cells of `mixed()` that are BEYOND: the corners of CHUNK 5, and one within. */
    static final int[][] BEYOND = {{4, 0, 4}, {7, 0, 4}, {4, 11, 4}, {7, 11, 4}, {4, 0, 7},
        {7, 0, 7}, {4, 11, 7}, {7, 11, 7}, {5, 6, 6}};
    /** Cells beside CHUNK 5. */
    static final int[][] BESIDE_BEYOND = {{3, 9, 4}, {3, 9, 7}, {8, 9, 4}, {8, 9, 7}, {4, 9, 3},
        {7, 9, 3}, {4, 9, 8}, {7, 9, 8}};
    /** x, z, w and d of boxes of `mixed()` with a cell that is BEYOND: each reaches it just so. */
    static final int[][] REACHING_BEYOND = {{3, 4, 2, 1}, {7, 4, 2, 1}, {4, 3, 1, 2}, {4, 7, 1, 2},
        {3, 3, 2, 2}, {7, 3, 2, 2}, {3, 7, 2, 2}, {7, 7, 2, 2}, {5, 5, 1, 1}, {2, 2, 8, 8}};
    /** x, z, w and d of boxes that end or begin just beside CHUNK 5. */
    static final int[][] SPARING_BEYOND = {{0, 0, 4, 8}, {8, 2, 8, 8}, {0, 0, 8, 4}, {2, 8, 8, 8}};

    private static final int[] CLIP_KINDS = {1, 2, 3, 4, 5, 6, 2, 1, 6, 5, 3, 4};

    private Worlds() {
    }

    static CobbleWorld fullOf(int kind) {
        CobbleWorld world = new CobbleWorld();
        world.fill(0, 0, 0, 16, 12, 16, kind);
        return world;
    }

    static CobbleWorld allAway() {
        CobbleWorld world = fullOf(1);
        for (int chunk = 0; chunk < 16; chunk++) {
            world.send(chunk, true);
        }
        return world;
    }

    /** WATER; in CHUNK 15 LEAF and WATER by turns, so that each of its cells is a RUN. */
    static CobbleWorld manyRuns() {
        CobbleWorld world = fullOf(6);
        for (int i = 0; i < 192; i += 2) {
            world.set(12 + i % 4, i / 16, 12 + i / 4 % 4, 5);
        }
        return world;
    }

    /** Hills, a LAMP, SAND and WATER that are not at rest, 2 TICKS, CHUNK 5 AWAY, and no CLIP. */
    static CobbleWorld mixedWithoutClip() {
        CobbleWorld world = new CobbleWorld();
        world.landscape(3);
        world.set(2, 8, 2, 6);
        world.set(10, 7, 2, 3);
        world.fill(9, 10, 9, 2, 1, 2, 4);
        world.tick(2);
        world.send(5, true);
        return world;
    }

    /** The same with a CLIP of 3 by 2 by 2, no two rows of it alike, without AIR. */
    static CobbleWorld mixed() {
        CobbleWorld world = mixedWithoutClip();
        for (int i = 0; i < CLIP_KINDS.length; i++) {
            world.set(12 + i % 3, 9 + i / 6, 12 + i / 3 % 2, CLIP_KINDS[i]);
        }
        world.copy(12, 9, 12, 3, 2, 2);
        return world;
    }
}
