/** Promises 1 to 7, sentence by sentence: the boundary cases that they name. */
public final class StateEdgeTests {
    private StateEdgeTests() {
    }

    public static void main(String[] args) {
        promise1AllIsAir();
        promise1AllIsHere();
        promise1NothingElseIsThere();
        promise2FirstAndLastCells();
        promise2FirstAndLastKinds();
        promise2WaterIsASpring();
        promise2KindBefore();
        promise2BesideBeyond();
        promise2NoSuchCell();
        promise2NoSuchKind();
        promise2Beyond();
        promise2FirstNamed();
        promise3LeastBoxes();
        promise3GreatestBox();
        promise3LongestBoxes();
        promise3WaterAreSprings();
        promise3NoneAndAllOfAnotherKind();
        promise3WhateverLevel();
        promise3BesideBeyond();
        promise3NoSuchBox();
        promise3NoSuchKind();
        promise3Beyond();
        promise3FirstNamed();
        promise4FirstAndLastSeeds();
        promise4EachHeight();
        promise4AllOthersAreAir();
        promise4JustWhatIsHere();
        promise4NothingIsHere();
        promise4NoSuchSeed();
        promise5FirstAndLastChunks();
        promise5FromNowOn();
        promise5AsItWouldHave();
        promise5FewestAndMostRuns();
        promise5NoSuchChunk();
        promise6FewestAndMostTicks();
        promise6NoWaterAndAllWater();
        promise6NothingIsHere();
        promise6WrongTicks();
        promise7FromNoTickOn();
        promise7JustWhatHasGoneBy();
        Check.end();
    }

    // ---- promise 1: a new object

    private static void promise1AllIsAir() {
        Check.sentence("Promise 1: Creates a world of AIR");
        for (int y = 0; y < 12; y++) {
            CobbleWorld world = new CobbleWorld();
            for (int i = 0; i < 256; i++) {
                Check.equal("kind", world.kind(i % 16, y, i / 16), 0);
            }
        }
        Check.equal("count(0)", new CobbleWorld().count(0), 3072);
    }

    private static void promise1AllIsHere() {
        Check.sentence("Promise 1: with all CHUNKS HERE");
        CobbleWorld world = new CobbleWorld();
        Check.equal("away()", world.away(), 0);
        for (int chunk = 0; chunk < 16; chunk++) {
            Check.equal("set in CHUNK " + chunk, world.set(chunk % 4 * 4, 0, chunk / 4 * 4, 1), 0);
        }
    }

    private static void promise1NothingElseIsThere() {
        Check.sentence("Promise 1: Creates a world of AIR, with all CHUNKS HERE");
        CobbleWorld used = Worlds.mixed();
        CobbleWorld world = new CobbleWorld();
        Check.equal("ticks()", world.ticks(), 0);
        Check.badState("no CLIP: turn()", world::turn);
        world.set(0, 0, 0, 3);
        Check.equal("it has nothing in common with another one", Sight.of(used),
                Sight.of(Worlds.mixed()));
    }

    // ---- promise 2: set

    private static void promise2FirstAndLastCells() {
        Check.sentence("Promise 2: Sets a cell.");
        for (int[] c : Worlds.CORNERS) {
            CobbleWorld world = new CobbleWorld();
            String call = Wrong.told("set", c);
            Check.equal(call, world.set(c[0], c[1], c[2], 4), 0);
            Check.equal(call + " is there", world.kind(c[0], c[1], c[2]), 4);
            Check.equal(call + " sets no other cell", world.count(0), 3071);
        }
    }

    private static void promise2FirstAndLastKinds() {
        Check.sentence("Promise 2: its KIND from now on");
        CobbleWorld world = new CobbleWorld();
        for (int kind : new int[] {6, 0, 5, 1, 2, 3, 4}) {
            world.set(7, 7, 7, kind);
            Check.equal("set to KIND " + kind, world.kind(7, 7, 7), kind);
        }
        world.set(7, 7, 7, 0);
        Check.equal("it is as it was", Sight.of(world), Sight.of(new CobbleWorld()));
    }

    private static void promise2WaterIsASpring() {
        Check.sentence("Promise 2: (WATER is a SPRING)");
        CobbleWorld world = new CobbleWorld();
        world.set(5, 0, 5, 6);
        Check.equal("from AIR", world.level(5, 0, 5), 8);
        world.tick(7);
        Check.equal("WATER of LEVEL 1", world.level(12, 0, 5), 1);
        world.set(12, 0, 5, 6);
        Check.equal("from WATER of LEVEL 1", world.level(12, 0, 5), 8);
        world.set(12, 0, 5, 1);
        Check.equal("STONE has none", world.level(12, 0, 5), 0);
    }

    private static void promise2KindBefore() {
        Check.sentence("Promise 2: Returns its KIND before.");
        CobbleWorld world = new CobbleWorld();
        for (int kind = 0; kind <= 6; kind++) {
            world.set(0, 11, 15, kind);
            Check.equal("the same KIND " + kind, world.set(0, 11, 15, kind), kind);
            Check.equal("another KIND", world.set(0, 11, 15, (kind + 1) % 7), kind);
        }
        world.set(5, 0, 5, 6);
        world.tick(7);
        Check.equal("WATER of LEVEL 1", world.set(12, 0, 5, 0), 6);
        Check.equal("WATER of LEVEL 7", world.set(6, 0, 5, 6), 6);
    }

    private static void promise2BesideBeyond() {
        Check.sentence("Promise 2: Throws IllegalStateException if it is BEYOND");
        CobbleWorld world = Worlds.mixed();
        for (int[] c : Worlds.BESIDE_BEYOND) {
            world.set(c[0], c[1], c[2], 3);
            Check.equal(Wrong.told("set", c) + " is not BEYOND", world.kind(c[0], c[1], c[2]), 3);
        }
        world.send(5, false);
        for (int[] c : Worlds.BEYOND) {
            world.set(c[0], c[1], c[2], 3);
            Check.equal(Wrong.told("set", c) + " is HERE again", world.kind(c[0], c[1], c[2]), 3);
        }
    }

    private static void promise2NoSuchCell() {
        Check.sentence("Promise 2: Throws IndexOutOfBoundsException if there is no such cell in the world");
        for (int[] c : Wrong.CELLS) {
            Refused.index(Wrong.told("set", c), Worlds::mixed, w -> w.set(c[0], c[1], c[2], 3));
        }
    }

    private static void promise2NoSuchKind() {
        Check.sentence("Promise 2: Throws IllegalArgumentException if kind is not 0 to 6");
        for (int kind : Wrong.KINDS) {
            Refused.argument("set to " + kind, Worlds::mixed, w -> w.set(1, 9, 1, kind));
        }
    }

    private static void promise2Beyond() {
        Check.sentence("Promise 2: Throws IllegalStateException if it is BEYOND");
        for (int[] c : Worlds.BEYOND) {
            for (int kind : new int[] {0, 3, 6}) {
                Refused.state(Wrong.told("set", c) + kind, Worlds::mixed,
                        w -> w.set(c[0], c[1], c[2], kind));
            }
        }
    }

    private static void promise2FirstNamed() {
        Check.sentence("Promise 2: If several exceptions apply, the one that is named first is thrown.");
        for (int kind : Wrong.KINDS) {
            Refused.index("no cell, no KIND", Worlds::mixed, w -> w.set(16, 0, 0, kind));
            Refused.index("no cell, no KIND", Worlds::mixed, w -> w.set(4, -1, 4, kind));
            Refused.argument("no KIND, BEYOND", Worlds::mixed, w -> w.set(4, 0, 4, kind));
        }
        // What is not in the world is BEYOND as well.
        Refused.index("no cell, BEYOND", Worlds::mixed, w -> w.set(4, 12, 4, 3));
        Refused.index("no cell, BEYOND", Worlds::allAway, w -> w.set(-1, 0, 0, 3));
    }

    // ---- promise 3: fill

    private static void promise3LeastBoxes() {
        Check.sentence("Promise 3: Sets all cells of a box. (1 by 1 by 1)");
        for (int[] c : Worlds.CORNERS) {
            CobbleWorld world = new CobbleWorld();
            String call = Wrong.told("fill", c);
            Check.equal(call, world.fill(c[0], c[1], c[2], 1, 1, 1, 5), 1);
            Check.equal(call + " is there", world.kind(c[0], c[1], c[2]), 5);
            Check.equal(call + " sets no other cell", world.count(0), 3071);
        }
    }

    private static void promise3GreatestBox() {
        Check.sentence("Promise 3: Sets all cells of a box. (16 by 12 by 16)");
        CobbleWorld world = new CobbleWorld();
        Check.equal("all", world.fill(0, 0, 0, 16, 12, 16, 4), 3072);
        Check.equal("all are SAND", world.count(4), 3072);
        for (int[] c : Worlds.CORNERS) {
            Check.equal(Wrong.told("a corner", c), world.kind(c[0], c[1], c[2]), 4);
        }
    }

    private static void promise3LongestBoxes() {
        Check.sentence("Promise 3: Sets all cells of a box. (as long as the world is, at its last cells)");
        int[][] boxes = {{0, 11, 15, 16, 1, 1}, {15, 0, 15, 1, 12, 1}, {15, 11, 0, 1, 1, 16}};
        for (int[] b : boxes) {
            CobbleWorld world = new CobbleWorld();
            int cells = b[3] * b[4] * b[5];
            Check.equal(Wrong.told("fill", b), world.fill(b[0], b[1], b[2], b[3], b[4], b[5], 2), cells);
            Check.equal("first cell", world.kind(b[0], b[1], b[2]), 2);
            Check.equal("last cell", world.kind(15, 11, 15), 2);
            Check.equal("no other cell", world.count(2), cells);
        }
    }

    private static void promise3WaterAreSprings() {
        Check.sentence("Promise 3: their KIND from now on (WATER are SPRINGS)");
        CobbleWorld world = new CobbleWorld();
        for (int kind = 0; kind <= 6; kind++) {
            world.fill(3, 3, 3, 2, 2, 2, kind);
            Check.equal("least cell", world.kind(3, 3, 3), kind);
            Check.equal("greatest cell", world.kind(4, 4, 4), kind);
            Check.equal("its LEVEL", world.level(4, 4, 4), kind == 6 ? 8 : 0);
        }
        Check.equal("they are just these", world.count(6), 8);
    }

    private static void promise3NoneAndAllOfAnotherKind() {
        Check.sentence("Promise 3: Returns how many were of another KIND");
        for (int kind = 0; kind <= 6; kind++) {
            CobbleWorld world = Worlds.fullOf(kind);
            Check.equal("none", world.fill(0, 0, 0, 16, 12, 16, kind), 0);
            Check.equal("all", world.fill(0, 0, 0, 16, 12, 16, (kind + 1) % 7), 3072);
            world.set(15, 11, 15, kind);
            Check.equal("all but the last one", world.fill(14, 10, 14, 2, 2, 2, kind), 7);
        }
    }

    private static void promise3WhateverLevel() {
        Check.sentence("Promise 3: Returns how many were of another KIND (whatever LEVEL).");
        CobbleWorld world = new CobbleWorld();
        world.set(4, 0, 4, 6);
        world.tick(7);
        Check.equal("WATER of LEVEL 8 to 1, then one of AIR", world.fill(4, 0, 4, 9, 1, 1, 6), 1);
        Check.equal("LEVEL 1 is a SPRING now", world.level(11, 0, 4), 8);
        Check.equal("all are of KIND 6", world.fill(4, 0, 4, 9, 1, 1, 0), 9);
    }

    private static void promise3BesideBeyond() {
        Check.sentence("Promise 3: Throws IllegalStateException if one is BEYOND (none is)");
        for (int[] b : Worlds.SPARING_BEYOND) {
            CobbleWorld world = Worlds.mixed();
            int cells = b[2] * b[3] * 12;
            world.fill(b[0], 0, b[1], b[2], 12, b[3], 1);
            Check.equal(Wrong.told("fill", b), world.fill(b[0], 0, b[1], b[2], 12, b[3], 3), cells);
            Check.equal("all are LAMPS", world.fill(b[0], 0, b[1], b[2], 12, b[3], 3), 0);
        }
    }

    private static void promise3NoSuchBox() {
        Check.sentence("Promise 3: Throws IndexOutOfBoundsException if a cell of it is not in the world, or w, h or d is not 1 to 16");
        for (int[] b : Wrong.boxes(16)) {
            Refused.index(Wrong.told("fill", b), Worlds::mixed,
                    w -> w.fill(b[0], b[1], b[2], b[3], b[4], b[5], 3));
        }
        for (int h = 13; h <= 16; h++) {
            int high = h;
            Refused.index("as high as " + h, Worlds::mixed, w -> w.fill(0, 0, 0, 1, high, 1, 3));
        }
        Refused.index("as small as can be", Worlds::mixed, w -> w.fill(0, 0, 0, 0, 0, 0, 3));
    }

    private static void promise3NoSuchKind() {
        Check.sentence("Promise 3: Throws IllegalArgumentException if kind is not 0 to 6");
        for (int kind : Wrong.KINDS) {
            Refused.argument("fill with " + kind, Worlds::mixed, w -> w.fill(0, 8, 0, 2, 2, 2, kind));
        }
    }

    private static void promise3Beyond() {
        Check.sentence("Promise 3: Throws IllegalStateException if one is BEYOND");
        for (int[] b : Worlds.REACHING_BEYOND) {
            Refused.state(Wrong.told("fill", b), Worlds::mixed,
                    w -> w.fill(b[0], 8, b[1], b[2], 2, b[3], 3));
        }
        Refused.state("the whole world", Worlds::mixed, w -> w.fill(0, 0, 0, 16, 12, 16, 3));
        Refused.state("all is AWAY", Worlds::allAway, w -> w.fill(0, 0, 0, 1, 1, 1, 3));
    }

    private static void promise3FirstNamed() {
        Check.sentence("Promise 3: If several exceptions apply, the one that is named first is thrown.");
        for (int kind : Wrong.KINDS) {
            Refused.index("no box, no KIND", Worlds::mixed, w -> w.fill(0, 0, 0, 0, 1, 1, kind));
            Refused.index("no box, no KIND", Worlds::mixed, w -> w.fill(0, 0, 15, 1, 1, 2, kind));
            Refused.argument("no KIND, BEYOND", Worlds::mixed, w -> w.fill(3, 0, 4, 2, 1, 1, kind));
        }
        Refused.index("no size, BEYOND", Worlds::mixed, w -> w.fill(4, 0, 4, 0, 1, 1, 3));
        Refused.index("not in the world, BEYOND", Worlds::mixed, w -> w.fill(4, 0, 4, 13, 1, 1, 3));
        Refused.index("not in the world, BEYOND", Worlds::mixed, w -> w.fill(4, 11, 4, 1, 2, 1, 3));
    }

    // ---- promise 4: landscape

    private static void promise4FirstAndLastSeeds() {
        Check.sentence("Promise 4: Throws IllegalArgumentException if seed is not 0 to 999 (it is)");
        for (int seed : new int[] {0, 1, 998, 999}) {
            for (int y = 0; y < 12; y++) {
                CobbleWorld world = new CobbleWorld();
                world.landscape(seed);
                for (int i = 0; i < 256; i++) {
                    int x = i % 16;
                    int z = i / 16;
                    int more = (7 * x + 13 * z + x * z + seed) % 6;
                    Check.equal("seed " + seed + ": kind", world.kind(x, y, z),
                            column(more).charAt(y) - '0');
                }
            }
        }
    }

    /** The KINDS of a column of the height 2 and so much more, from y 0 on. */
    private static String column(int more) {
        return new String[] {"146600000000", "114600000000", "111100000000", "111110000000",
            "111111500000", "111111100000"}[more];
    }

    private static void promise4EachHeight() {
        Check.sentence("Promise 4: STONE below y t - 1; at y t - 1 SAND, if t is below 4, otherwise STONE; from y t on SPRINGS up to y 3, if t is below 4; at y t LEAF, if t is 6");
        CobbleWorld world = new CobbleWorld();
        world.landscape(0);
        // With the seed 0, the columns of x 0 to 5 at z 0 have the heights 2 to 7.
        for (int x = 0; x < 6; x++) {
            for (int y = 0; y < 12; y++) {
                int kind = column(x).charAt(y) - '0';
                Check.equal("height " + (x + 2) + " at y " + y, world.kind(x, y, 0), kind);
                Check.equal("its LEVEL", world.level(x, y, 0), kind == 6 ? 8 : 0);
            }
        }
    }

    private static void promise4AllOthersAreAir() {
        Check.sentence("Promise 4: all others AIR");
        for (int kind = 0; kind <= 6; kind++) {
            CobbleWorld world = Worlds.fullOf(kind);
            CobbleWorld fresh = new CobbleWorld();
            Check.equal("on KIND " + kind, world.landscape(999), fresh.landscape(999));
            Check.equal("on KIND " + kind, Sight.of(world), Sight.of(fresh));
        }
    }

    private static void promise4JustWhatIsHere() {
        Check.sentence("Promise 4: Makes a landscape in all CHUNKS that are HERE");
        for (int chunk = 0; chunk < 16; chunk++) {
            CobbleWorld world = Worlds.fullOf(3);
            world.send(chunk, true);
            int solid = world.landscape(0);
            Check.equal("no LAMP is left HERE", world.count(3), 0);
            Check.equal("not AIR (and not BEYOND)", solid, 2880 - world.count(0));
            world.send(chunk, false);
            Check.equal("CHUNK " + chunk + " was AWAY", world.count(3), 192);
            Check.equal("all of it", world.run(chunk, 0, 2), 192);
        }
    }

    private static void promise4NothingIsHere() {
        Check.sentence("Promise 4: Returns how many cells are not AIR then (and not BEYOND).");
        CobbleWorld world = Worlds.allAway();
        Check.equal("all is AWAY", world.landscape(0), 0);
        Check.equal("nothing is changed", Sight.of(world), Sight.of(Worlds.allAway()));
    }

    private static void promise4NoSuchSeed() {
        Check.sentence("Promise 4: Throws IllegalArgumentException if seed is not 0 to 999");
        for (int seed : Wrong.beside(0, 999)) {
            Refused.argument("landscape " + seed, Worlds::mixed, w -> w.landscape(seed));
        }
        Refused.argument("all is AWAY", Worlds::allAway, w -> w.landscape(1000));
    }

    // ---- promise 5: send

    private static void promise5FirstAndLastChunks() {
        Check.sentence("Promise 5: Sends a CHUNK AWAY, or lets it come back.");
        for (int chunk = 0; chunk < 16; chunk++) {
            CobbleWorld world = Worlds.mixedWithoutClip();
            world.send(5, false);
            String before = Sight.of(world);
            world.send(chunk, true);
            Check.equal("away()", world.away(), 1 << chunk);
            Check.equal("BEYOND", world.kind(chunk % 4 * 4 + 3, 11, chunk / 4 * 4 + 3), -1);
            world.send(chunk, false);
            Check.equal("it comes back just so", Sight.of(world), before);
        }
    }

    private static void promise5FromNowOn() {
        Check.sentence("Promise 5: whether it is AWAY from now on");
        CobbleWorld world = Worlds.mixed();
        String away = Sight.of(world);
        world.send(5, true);
        Check.equal("AWAY once more", Sight.of(world), away);
        world.send(5, false);
        Check.equal("it is HERE", world.away(), 0);
        String here = Sight.of(world);
        world.send(5, false);
        Check.equal("back once more", Sight.of(world), here);
    }

    private static void promise5AsItWouldHave() {
        Check.sentence("Promise 5: Returns how many RUNS it has (as it is AWAY; as it would, if it was).");
        for (int chunk = 0; chunk < 16; chunk++) {
            CobbleWorld world = Worlds.mixed();
            int runs = world.runs(chunk);
            Check.equal("HERE", world.send(chunk, false), runs);
            Check.equal("it goes", world.send(chunk, true), runs);
            Check.equal("AWAY", world.send(chunk, true), runs);
            Check.equal("it comes", world.send(chunk, false), runs);
        }
    }

    private static void promise5FewestAndMostRuns() {
        Check.sentence("Promise 5: Returns how many RUNS it has (from 1 to 192)");
        CobbleWorld world = Worlds.manyRuns();
        Check.equal("one RUN", world.send(0, true), 1);
        Check.equal("one RUN", world.send(0, false), 1);
        Check.equal("each cell is one", world.send(15, true), 192);
        Check.equal("each cell is one", world.send(15, false), 192);
        Check.equal("they are as before", world.count(5), 96);
    }

    private static void promise5NoSuchChunk() {
        Check.sentence("Promise 5: Throws IndexOutOfBoundsException if there is no such CHUNK");
        for (int chunk : Wrong.CHUNKS) {
            Refused.index("send " + chunk, Worlds::mixed, w -> w.send(chunk, true));
            Refused.index("send back " + chunk, Worlds::allAway, w -> w.send(chunk, false));
        }
        // Shifts take the last five bits alone: 32 would be CHUNK 0.
        Refused.index("send 32", Worlds::mixed, w -> w.send(32, true));
        Refused.index("send back 37", Worlds::mixed, w -> w.send(37, false));
    }

    // ---- promise 6: tick (what a TICK does is told by the Terms)

    private static void promise6FewestAndMostTicks() {
        Check.sentence("Promise 6: Throws IllegalArgumentException if ticks is not 1 to 12 (it is)");
        for (int ticks = 1; ticks <= 12; ticks++) {
            CobbleWorld world = Worlds.mixed();
            CobbleWorld slow = Worlds.mixed();
            int water = world.tick(ticks);
            int slowWater = 0;
            for (int i = 0; i < ticks; i++) {
                slowWater = slow.tick(1);
            }
            Check.equal("WATER behind " + ticks, water, slowWater);
            Check.equal("all behind " + ticks, Sight.of(world), Sight.of(slow));
        }
    }

    private static void promise6NoWaterAndAllWater() {
        Check.sentence("Promise 6: Returns how many cells are WATER then.");
        Check.equal("none", new CobbleWorld().tick(12), 0);
        Check.equal("no cell is AIR", Worlds.fullOf(1).tick(1), 0);
        Check.equal("all", Worlds.fullOf(6).tick(12), 3072);
        CobbleWorld drying = new CobbleWorld();
        drying.set(8, 0, 8, 6);
        drying.tick(1);
        drying.set(8, 0, 8, 1);
        // The four cells of LEVEL 7 have dried up, and the eight around them are WATER.
        Check.equal("as it is then, not before", drying.tick(1), 8);
    }

    private static void promise6NothingIsHere() {
        Check.sentence("Promise 6: Returns how many cells are WATER then. (BEYOND is of no KIND)");
        CobbleWorld world = Worlds.fullOf(6);
        for (int chunk = 0; chunk < 16; chunk++) {
            world.send(chunk, true);
        }
        Check.equal("all is AWAY", world.tick(12), 0);
        world.send(0, false);
        Check.equal("one is back", world.tick(1), 192);
    }

    private static void promise6WrongTicks() {
        Check.sentence("Promise 6: Throws IllegalArgumentException if ticks is not 1 to 12");
        for (int ticks : Wrong.TICKS) {
            Refused.argument("tick " + ticks, Worlds::mixed, w -> w.tick(ticks));
        }
    }

    // ---- promise 7: ticks

    private static void promise7FromNoTickOn() {
        Check.sentence("Promise 7: Returns the TICKS.");
        CobbleWorld world = new CobbleWorld();
        int due = 0;
        Check.equal("none", world.ticks(), due);
        for (int ticks = 1; ticks <= 12; ticks++) {
            world.tick(ticks);
            due += ticks;
            Check.equal("behind " + ticks + " more", world.ticks(), due);
        }
    }

    private static void promise7JustWhatHasGoneBy() {
        Check.sentence("Promise 7: Returns the TICKS. (those of tick alone)");
        CobbleWorld world = Worlds.mixed();
        world.calmIn(12);
        world.waterIn(12);
        world.digest();
        world.landscape(0);
        world.send(5, false);
        world.fill(0, 0, 0, 16, 12, 16, 0);
        Check.equal("two as before", world.ticks(), 2);
    }
}
