/** Promises 1 to 7: a new object, and what is set. */
public final class StateTests {
    private StateTests() {
    }

    public static void main(String[] args) {
        promise1NewWorld();
        promise2Set();
        promise2WrongInputs();
        promise3Fill();
        promise3WrongInputs();
        promise4Landscape();
        promise4LeavesAwayChunks();
        promise4LeavesJustThem();
        promise5Send();
        promise5ComesBackJustSo();
        promise6SandFalls();
        promise6SandAndWater();
        promise6WaterSpreads();
        promise6WaterFalls();
        promise6SpringsJoin();
        promise6AwayStandsStill();
        promise6WrongInputs();
        promise7Ticks();
        Check.end();
    }

    private static void promise1NewWorld() {
        CobbleWorld world = new CobbleWorld();
        for (int i = 0; i < 256; i++) {
            Check.equal("1: kind of a new cell", world.kind(i % 16, i % 12, i / 16), 0);
        }
        Check.equal("1: count(0)", world.count(0), 3072);
        Check.equal("1: away()", world.away(), 0);
        Check.equal("1: ticks()", world.ticks(), 0);
        Check.badState("1: there is no CLIP", world::turn);
        new CobbleWorld().set(1, 1, 1, 1);
        Check.equal("1: objects have nothing in common", world.kind(1, 1, 1), 0);
    }

    private static void promise2Set() {
        CobbleWorld world = new CobbleWorld();
        for (int kind = 0; kind <= 6; kind++) {
            Check.equal("2: set", world.set(15, 11, 15, kind), kind == 0 ? 0 : kind - 1);
            Check.equal("2: kind", world.kind(15, 11, 15), kind);
            Check.equal("2: level", world.level(15, 11, 15), kind == 6 ? 8 : 0);
        }
        Check.equal("2: no other cell is set", world.count(0), 3071);
        CobbleWorld flowing = new CobbleWorld();
        flowing.set(5, 0, 5, 6);
        flowing.tick(1);
        Check.equal("2: level 7 beside a SPRING", flowing.level(6, 0, 5), 7);
        Check.equal("2: set on WATER", flowing.set(6, 0, 5, 6), 6);
        Check.equal("2: it is a SPRING now", flowing.level(6, 0, 5), 8);
    }

    private static void promise2WrongInputs() {
        CobbleWorld world = new CobbleWorld();
        int[][] outside = {{-1, 0, 0}, {16, 0, 0}, {0, -1, 0}, {0, 12, 0}, {0, 0, -1}, {0, 0, 16},
            {Integer.MIN_VALUE, 0, 0}, {0, Integer.MAX_VALUE, 0}};
        for (int[] c : outside) {
            Check.badIndex("2: no such cell", () -> world.set(c[0], c[1], c[2], 1));
            Check.badIndex("2: cell ahead of kind", () -> world.set(c[0], c[1], c[2], 7));
        }
        Check.badArgument("2: kind 7", () -> world.set(0, 0, 0, 7));
        Check.badArgument("2: kind -1", () -> world.set(0, 0, 0, -1));
        world.set(3, 0, 3, 2);
        world.send(0, true);
        Check.badState("2: BEYOND", () -> world.set(3, 0, 3, 1));
        Check.badArgument("2: kind ahead of BEYOND", () -> world.set(3, 0, 3, 7));
        Check.equal("2: the CHUNK beside in x", world.set(4, 0, 3, 5), 0);
        Check.equal("2: again", world.set(4, 0, 3, 1), 5);
        Check.equal("2: the CHUNK beside in z", world.set(3, 0, 4, 5), 0);
        Check.equal("2: again", world.set(3, 0, 4, 1), 5);
        world.send(0, false);
        world.send(1, true);
        Check.badState("2: BEYOND in x", () -> world.set(4, 0, 3, 1));
        Check.equal("2: not in z", world.set(3, 0, 4, 1), 1);
        Check.equal("2: nothing is changed", world.kind(3, 0, 3), 2);
    }

    private static void promise3Fill() {
        CobbleWorld world = new CobbleWorld();
        Check.equal("3: the whole world", world.fill(0, 0, 0, 16, 12, 16, 1), 3072);
        Check.equal("3: once more", world.fill(0, 0, 0, 16, 12, 16, 1), 0);
        Check.equal("3: a part", world.fill(1, 2, 3, 2, 3, 4, 0), 24);
        Check.equal("3: cells are AIR", world.count(0), 24);
        Check.equal("3: least corner", world.kind(1, 2, 3), 0);
        Check.equal("3: greatest corner", world.kind(2, 4, 6), 0);
        Check.equal("3: outside of the box", world.kind(3, 4, 6), 1);
        Check.equal("3: what is so already does not count", world.fill(1, 2, 3, 3, 3, 4, 0), 12);
        CobbleWorld flowing = new CobbleWorld();
        flowing.set(5, 0, 5, 6);
        flowing.tick(1);
        Check.equal("3: WATER of whatever LEVEL", flowing.fill(4, 0, 5, 4, 1, 1, 6), 1);
        Check.equal("3: SPRINGS", flowing.level(4, 0, 5), 8);
    }

    private static void promise3WrongInputs() {
        CobbleWorld world = new CobbleWorld();
        int[][] boxes = {{0, 0, 0, 0, 1, 1}, {0, 0, 0, 1, 0, 1}, {0, 0, 0, 1, 1, 0},
            {0, 0, 0, 17, 1, 1}, {0, 0, 0, 1, 13, 1}, {0, 0, 0, 1, 17, 1}, {0, 0, 0, 1, 1, 17},
            {-1, 0, 0, 1, 1, 1}, {-1, 0, 0, 2, 1, 1}, {0, -1, 0, 1, 2, 1}, {0, 0, -1, 1, 1, 2},
            {10, 0, 0, 7, 1, 1}, {0, 6, 0, 1, 7, 1}, {0, 0, 15, 1, 1, 2}, {16, 0, 0, 1, 1, 1},
            {Integer.MAX_VALUE, 0, 0, 2, 1, 1}, {1, 1, 1, Integer.MAX_VALUE, 1, 1},
            {1, 1, 1, 1, Integer.MAX_VALUE, 1}, {1, 1, 1, 1, 1, Integer.MIN_VALUE},
            {5, 5, 5, 0, 1, 1}, {5, 5, 5, 1, 0, 1}, {5, 5, 5, 1, 1, 0}};
        for (int[] b : boxes) {
            Check.badIndex("3: no such box", () -> world.fill(b[0], b[1], b[2], b[3], b[4], b[5], 1));
            Check.badIndex("3: box ahead of kind",
                    () -> world.fill(b[0], b[1], b[2], b[3], b[4], b[5], 7));
        }
        Check.badArgument("3: kind 7", () -> world.fill(0, 0, 0, 1, 1, 1, 7));
        Check.badArgument("3: kind -1", () -> world.fill(0, 0, 0, 1, 1, 1, -1));
        world.send(5, true);
        Check.badState("3: a corner is BEYOND", () -> world.fill(3, 0, 3, 2, 1, 2, 1));
        Check.badState("3: the middle is BEYOND", () -> world.fill(0, 0, 0, 16, 1, 16, 1));
        Check.badArgument("3: kind ahead of BEYOND", () -> world.fill(3, 0, 3, 2, 1, 2, 7));
        Check.equal("3: nothing is changed", world.count(0), 3072 - 192);
        world.send(5, false);
        world.send(2, true);
        Check.badState("3: BEYOND in x", () -> world.fill(7, 0, 3, 2, 1, 1, 1));
        Check.badState("3: BEYOND in z", () -> world.fill(8, 0, 3, 1, 1, 2, 1));
        Check.equal("3: beside it in z", world.fill(8, 0, 4, 4, 1, 4, 0), 0);
        Check.equal("3: beside it in x", world.fill(4, 0, 0, 4, 1, 4, 0), 0);
        world.send(2, false);
        world.send(5, true);
        Check.equal("3: ahead of it in z", world.fill(4, 0, 0, 4, 1, 4, 0), 0);
        Check.equal("3: ahead of it in x", world.fill(0, 0, 4, 4, 1, 4, 0), 0);
        Check.equal("3: beside what is BEYOND", world.fill(0, 0, 0, 4, 12, 16, 1), 768);
    }

    private static void promise4Landscape() {
        for (int seed : new int[] {0, 1, 2, 3, 4, 5, 500, 999}) {
            int due = 0;
            for (int y = 0; y < 12; y++) {
                due += promise4Layer(seed, y);
            }
            Check.equal("4: landscape(" + seed + ")", new CobbleWorld().landscape(seed), due);
        }
        CobbleWorld world = new CobbleWorld();
        Check.badArgument("4: seed -1", () -> world.landscape(-1));
        Check.badArgument("4: seed 1000", () -> world.landscape(1000));
        Check.badArgument("4: least seed", () -> world.landscape(Integer.MIN_VALUE));
        Check.equal("4: nothing is changed", world.count(0), 3072);
    }

    /** How many cells of this y are not to be AIR. */
    private static int promise4Layer(int seed, int y) {
        CobbleWorld world = Worlds.fullOf(3);
        world.landscape(seed);
        int solid = 0;
        for (int x = 0; x < 16; x++) {
            for (int z = 0; z < 16; z++) {
                int kind = column((7 * x + 13 * z + x * z + seed) % 6).charAt(y) - '0';
                solid += kind == 0 ? 0 : 1;
                Check.equal("4: kind", world.kind(x, y, z), kind);
                if (kind == 6) {
                    Check.equal("4: level", world.level(x, y, z), 8);
                }
            }
        }
        return solid;
    }

    /** The KINDS of a column of height 2 and so much more, from y 0 on. */
    private static String column(int more) {
        return new String[] {"146600000000", "114600000000", "111100000000", "111110000000",
            "111111500000", "111111100000"}[more];
    }

    private static void promise4LeavesAwayChunks() {
        CobbleWorld world = new CobbleWorld();
        int whole = world.landscape(7);
        world.fill(4, 0, 4, 4, 12, 4, 0);
        world.fill(4, 0, 4, 4, 1, 4, 3);
        world.tick(1);
        world.copy(4, 0, 4, 1, 1, 1);
        world.send(5, true);
        int part = world.landscape(7);
        world.send(5, false);
        Check.equal("4: what is AWAY keeps its cells", world.count(3), 16);
        int there = 0;
        for (int x = 4; x < 8; x++) {
            for (int z = 4; z < 8; z++) {
                int t = 2 + (7 * x + 13 * z + x * z + 7) % 6;
                there += t < 4 ? 4 : t == 6 ? 7 : t;
            }
        }
        Check.equal("4: BEYOND does not count", part, whole - there);
        Check.equal("4: TICKS stay", world.ticks(), 1);
        Check.equal("4: the CLIP stays", world.turn(), 1);
    }

    private static void promise4LeavesJustThem() {
        CobbleWorld world = new CobbleWorld();
        world.send(2, true);
        world.landscape(0);
        Check.equal("4: the CHUNK across is HERE", world.runs(8) > 1 ? 1 : 0, 1);
        world.send(2, false);
        Check.equal("4: this one was not", world.runs(2), 1);
    }

    private static void promise5Send() {
        CobbleWorld world = new CobbleWorld();
        Check.equal("5: one RUN", world.send(3, true), 1);
        Check.equal("5: away()", world.away(), 8);
        Check.equal("5: AWAY again", world.send(3, true), 1);
        Check.equal("5: away() still", world.away(), 8);
        Check.equal("5: back", world.send(3, false), 1);
        Check.equal("5: back again", world.send(3, false), 1);
        Check.equal("5: none is AWAY", world.away(), 0);
        world.set(0, 0, 0, 1);
        world.set(2, 0, 0, 1);
        world.set(15, 11, 15, 2);
        Check.equal("5: four RUNS", world.send(0, true), 4);
        Check.equal("5: two RUNS", world.send(15, true), 2);
        Check.equal("5: both are AWAY", world.away(), 32769);
        Check.equal("5: as it comes back", world.send(0, false), 4);
        for (int chunk : new int[] {-1, 16, Integer.MIN_VALUE, Integer.MAX_VALUE}) {
            Check.badIndex("5: no such CHUNK", () -> world.send(chunk, true));
            Check.badIndex("5: no such CHUNK", () -> world.send(chunk, false));
        }
        Check.equal("5: nothing is changed", world.away(), 32768);
    }

    private static void promise5ComesBackJustSo() {
        CobbleWorld world = new CobbleWorld();
        world.landscape(40);
        world.set(6, 8, 6, 6);
        world.tick(4);
        String before = Sight.of(world);
        for (int chunk = 0; chunk < 16; chunk++) {
            world.send(chunk, true);
        }
        Check.equal("5: all is AWAY", world.away(), 65535);
        Check.equal("5: nothing is left", world.count(0), 0);
        world.waterIn(3);
        for (int chunk = 0; chunk < 16; chunk++) {
            world.send(chunk, false);
        }
        Check.equal("5: just so", Sight.of(world), before);
    }

    private static void promise6SandFalls() {
        CobbleWorld world = new CobbleWorld();
        world.fill(7, 9, 7, 1, 3, 1, 4);
        world.set(7, 1, 7, 1);
        Check.equal("6: no WATER", world.tick(1), 0);
        Check.equal("6: the whole column falls", sand(world, 7, 7), 0b011100000000);
        world.tick(12);
        Check.equal("6: it lies on STONE", sand(world, 7, 7), 0b000000011100);
        world.set(7, 1, 7, 0);
        world.tick(12);
        Check.equal("6: it lies on the ground", sand(world, 7, 7), 0b000000000111);
        for (int kind : new int[] {1, 2, 3, 5}) {
            world.set(kind, 4, 0, kind);
            world.set(kind, 5, 0, 4);
            world.tick(1);
            Check.equal("6: it lies on KIND " + kind, world.kind(kind, 5, 0), 4);
        }
        CobbleWorld everywhere = new CobbleWorld();
        everywhere.fill(0, 11, 0, 16, 1, 16, 4);
        everywhere.tick(11);
        for (int x = 0; x < 16; x++) {
            for (int z = 0; z < 16; z++) {
                Check.equal("6: it falls in each column", everywhere.kind(x, 0, z), 4);
            }
        }
        Check.equal("6: nothing is left above", everywhere.count(4), 256);
    }

    private static int sand(CobbleWorld world, int x, int z) {
        int set = 0;
        for (int y = 0; y < 12; y++) {
            set += world.kind(x, y, z) == 4 ? 1 << y : 0;
        }
        return set;
    }

    private static void promise6SandAndWater() {
        CobbleWorld world = new CobbleWorld();
        world.fill(4, 0, 4, 3, 3, 3, 1);
        world.set(5, 1, 5, 6);
        world.set(5, 2, 5, 4);
        Check.equal("6: the WATER is gone", world.tick(1), 0);
        Check.equal("6: SAND is there", world.kind(5, 1, 5), 4);
        Check.equal("6: its cell is AIR", world.kind(5, 2, 5), 0);
        CobbleWorld flowing = new CobbleWorld();
        flowing.set(5, 0, 5, 6);
        flowing.set(6, 1, 5, 4);
        Check.equal("6: first SAND, then WATER", flowing.tick(1), 4);
        Check.equal("6: where SAND has come, there is no WATER", flowing.kind(6, 0, 5), 4);
        CobbleWorld left = new CobbleWorld();
        left.fill(4, 0, 4, 3, 2, 3, 1);
        left.set(5, 1, 5, 4);
        left.set(5, 0, 5, 0);
        left.set(4, 1, 5, 6);
        Check.equal("6: WATER comes where SAND was", left.tick(1) > 1 ? left.level(5, 1, 5) : 0, 7);
    }

    private static void promise6WaterSpreads() {
        CobbleWorld world = new CobbleWorld();
        world.set(8, 0, 8, 6);
        Check.equal("6: a SPRING and four", world.tick(1), 5);
        Check.equal("6: two ticks", world.tick(1), 13);
        Check.equal("6: up to LEVEL 1", world.tick(12), 113);
        for (int far = 0; far < 8; far++) {
            Check.equal("6: level at " + far, world.level(8 - far, 0, 8), 8 - far);
        }
        Check.equal("6: behind LEVEL 1 it is AIR", world.kind(0, 0, 8), 0);
        Check.equal("6: round a corner", world.level(10, 0, 11), 3);
        CobbleWorld corner = new CobbleWorld();
        corner.set(1, 0, 2, 6);
        corner.tick(5);
        Check.equal("6: up to the edge of x", corner.level(0, 0, 2), 7);
        Check.equal("6: up to the edge of z", corner.level(1, 0, 0), 6);
        Check.equal("6: to the corner", corner.level(0, 0, 0), 5);
        corner.fill(0, 0, 0, 16, 1, 16, 0);
        corner.set(14, 0, 13, 6);
        corner.tick(5);
        Check.equal("6: up to the other edge of x", corner.level(15, 0, 13), 7);
        Check.equal("6: up to the other edge of z", corner.level(14, 0, 15), 6);
        world.set(8, 0, 8, 0);
        Check.equal("6: the SPRING is gone", world.tick(1), 113);
        Check.equal("6: beside LEVEL 7 is LEVEL 6", world.level(8, 0, 8), 6);
        Check.equal("6: it dries up", world.tick(12), 0);
    }

    private static void promise6WaterFalls() {
        CobbleWorld world = new CobbleWorld();
        world.set(8, 11, 8, 6);
        Check.equal("6: it falls and does not spread", world.tick(1), 2);
        Check.equal("6: LEVEL 7 below WATER", world.level(8, 10, 8), 7);
        Check.equal("6: one cell each tick", world.tick(10), 12);
        Check.equal("6: at the ground", world.level(8, 0, 8), 7);
        Check.equal("6: there it spreads", world.tick(1), 16);
        Check.equal("6: LEVEL 6 beside it", world.level(9, 0, 8), 6);
        Check.equal("6: what is above comes ahead of the sides", world.level(8, 1, 8), 7);
        CobbleWorld stone = new CobbleWorld();
        stone.set(8, 5, 8, 6);
        for (int kind : new int[] {1, 2, 3, 5}) {
            stone.set(8, 4, 8, kind);
            stone.tick(2);
            Check.equal("6: it spreads on KIND " + kind, stone.level(9, 5, 8), 7);
            stone.set(8, 4, 8, 0);
            stone.tick(12);
            Check.equal("6: and dries up", stone.kind(9, 5, 8), 0);
        }
        stone.set(8, 4, 8, 6);
        stone.tick(1);
        Check.equal("6: it spreads on a SPRING", stone.level(9, 5, 8), 7);
    }

    private static void promise6SpringsJoin() {
        CobbleWorld world = new CobbleWorld();
        world.set(4, 0, 4, 6);
        world.set(6, 0, 4, 6);
        world.tick(1);
        Check.equal("6: between two SPRINGS", world.level(5, 0, 4), 8);
        world.set(10, 0, 10, 6);
        world.set(11, 0, 11, 6);
        world.tick(1);
        Check.equal("6: in a corner of two", world.level(10, 0, 11), 8);
        Check.equal("6: in the other one", world.level(11, 0, 10), 8);
        CobbleWorld air = new CobbleWorld();
        air.set(4, 5, 4, 6);
        air.set(6, 5, 4, 6);
        air.tick(1);
        Check.equal("6: not above AIR", air.kind(5, 5, 4), 0);
        air.set(5, 4, 4, 6);
        air.tick(1);
        Check.equal("6: above a SPRING", air.level(5, 5, 4), 8);
        CobbleWorld level = new CobbleWorld();
        level.set(4, 0, 4, 6);
        level.set(5, 1, 4, 6);
        level.tick(1);
        Check.equal("6: above does not count", level.level(5, 0, 4), 7);
    }

    private static void promise6AwayStandsStill() {
        CobbleWorld world = new CobbleWorld();
        world.set(4, 0, 5, 6);
        world.set(3, 5, 5, 4);
        world.send(4, true);
        Check.equal("6: a SPRING and three", world.tick(1), 4);
        Check.equal("6: and on", world.tick(1), 9);
        world.send(4, false);
        Check.equal("6: SAND that is AWAY does not fall", world.kind(3, 5, 5), 4);
        Check.equal("6: no WATER flows into it", world.kind(3, 0, 5), 0);
        world.tick(1);
        Check.equal("6: but then it falls", world.kind(3, 4, 5), 4);
        Check.equal("6: but then it flows", world.level(3, 0, 5), 7);
        world.send(5, true);
        Check.equal("6: WATER that is AWAY does not count", world.tick(1), world.count(6));
        Check.equal("6: nor is it there to flow on", world.tick(12), 0);
    }

    private static void promise6WrongInputs() {
        CobbleWorld world = new CobbleWorld();
        world.set(8, 0, 8, 6);
        for (int ticks : new int[] {0, 13, -1, Integer.MIN_VALUE, Integer.MAX_VALUE}) {
            Check.badArgument("6: tick(" + ticks + ")", () -> world.tick(ticks));
        }
        Check.equal("6: nothing is changed", world.count(6), 1);
    }

    private static void promise7Ticks() {
        CobbleWorld world = new CobbleWorld();
        world.tick(1);
        world.tick(12);
        Check.equal("7: ticks()", world.ticks(), 13);
        Check.badArgument("7: no tick", () -> world.tick(13));
        world.calmIn(3);
        world.waterIn(3);
        world.landscape(3);
        Check.equal("7: ticks() still", world.ticks(), 13);
    }
}
