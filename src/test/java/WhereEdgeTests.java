/** Promises 8 to 15, sentence by sentence: the boundary cases that they name. */
public final class WhereEdgeTests {
    private static final int[][] NO_COLUMN = {{-1, 0}, {16, 0}, {0, -1}, {0, 16}, {-1, 15}, {16, 15},
        {15, -1}, {15, 16}, {-1, 1}, {1, -1}, {Integer.MIN_VALUE, 0}, {Integer.MAX_VALUE, 0},
        {0, Integer.MIN_VALUE}, {0, Integer.MAX_VALUE}};

    private WhereEdgeTests() {
    }

    public static void main(String[] args) {
        promise8EachKind();
        promise8Beyond();
        promise8NoSuchCell();
        promise9LeastAndGreatestLevel();
        promise9NoWater();
        promise9Beyond();
        promise9NoSuchCell();
        promise10LeastAndGreatest();
        promise10WithoutOne();
        promise10Beyond();
        promise10NoSuchColumn();
        promise11NoneAndAll();
        promise11NoneThatIsBeyond();
        promise11NoSuchKind();
        promise12Neighbour();
        promise12FarthestCell();
        promise12FirstOne();
        promise12NoneInTheWorld();
        promise12NoneAheadOfAChunkThatIsAway();
        promise12TheCellItself();
        promise12NoSuchCell();
        promise12NoSuchSide();
        promise12FirstNamed();
        promise13EmptyAndFullSet();
        promise13EachOne();
        promise14FewestAndMost();
        promise14WouldHave();
        promise14NoSuchChunk();
        promise15FirstAndLast();
        promise15FewestAndMostCells();
        promise15NoWater();
        promise15NoSuchChunk();
        promise15NoSuchRun();
        promise15NoSuchNumber();
        promise15FirstNamed();
        Check.end();
    }

    // ---- promise 8: kind

    private static void promise8EachKind() {
        Check.sentence("Promise 8: Returns its KIND");
        for (int[] c : Worlds.CORNERS) {
            for (int kind = 0; kind <= 6; kind++) {
                CobbleWorld world = Worlds.fullOf((kind + 1) % 7);
                world.set(c[0], c[1], c[2], kind);
                Check.equal(Wrong.told("kind", c), world.kind(c[0], c[1], c[2]), kind);
                Check.equal("another cell", world.kind(7, 6, 7), (kind + 1) % 7);
            }
        }
    }

    private static void promise8Beyond() {
        Check.sentence("Promise 8: -1 if it is BEYOND");
        for (int kind = 0; kind <= 6; kind++) {
            CobbleWorld world = Worlds.fullOf(kind);
            world.send(5, true);
            for (int[] c : Worlds.BEYOND) {
                Check.equal(Wrong.told("kind", c), world.kind(c[0], c[1], c[2]), -1);
            }
            for (int[] c : Worlds.BESIDE_BEYOND) {
                Check.equal(Wrong.told("kind", c), world.kind(c[0], c[1], c[2]), kind);
            }
        }
    }

    private static void promise8NoSuchCell() {
        Check.sentence("Promise 8: Throws IndexOutOfBoundsException if there is no such cell in the world");
        for (int[] c : Wrong.CELLS) {
            Refused.index(Wrong.told("kind", c), Worlds::mixed, w -> w.kind(c[0], c[1], c[2]));
            Check.badIndex("all is AWAY", () -> Worlds.allAway().kind(c[0], c[1], c[2]));
        }
    }

    // ---- promise 9: level

    private static void promise9LeastAndGreatestLevel() {
        Check.sentence("Promise 9: Returns its LEVEL");
        CobbleWorld world = new CobbleWorld();
        world.set(0, 0, 15, 6);
        world.tick(8);
        for (int far = 0; far < 8; far++) {
            Check.equal("so far in x: " + far, world.level(far, 0, 15), 8 - far);
            Check.equal("so far in z: " + far, world.level(0, 0, 15 - far), 8 - far);
        }
        Check.equal("behind the LEVEL 1", world.level(8, 0, 15), 0);
        world.set(15, 11, 15, 6);
        Check.equal("the last cell", world.level(15, 11, 15), 8);
    }

    private static void promise9NoWater() {
        Check.sentence("Promise 9: 0 if it is no WATER");
        for (int kind = 0; kind <= 5; kind++) {
            CobbleWorld world = Worlds.fullOf(6);
            world.set(15, 0, 15, kind);
            Check.equal("KIND " + kind, world.level(15, 0, 15), 0);
            Check.equal("the cell beside", world.level(14, 0, 15), 8);
        }
    }

    private static void promise9Beyond() {
        Check.sentence("Promise 9: 0 if it is no WATER (BEYOND is of no KIND)");
        CobbleWorld world = Worlds.fullOf(6);
        world.send(5, true);
        for (int[] c : Worlds.BEYOND) {
            Check.equal(Wrong.told("level", c), world.level(c[0], c[1], c[2]), 0);
        }
        for (int[] c : Worlds.BESIDE_BEYOND) {
            Check.equal(Wrong.told("level", c), world.level(c[0], c[1], c[2]), 8);
        }
    }

    private static void promise9NoSuchCell() {
        Check.sentence("Promise 9: Throws IndexOutOfBoundsException if there is no such cell in the world");
        for (int[] c : Wrong.CELLS) {
            Refused.index(Wrong.told("level", c), Worlds::mixed, w -> w.level(c[0], c[1], c[2]));
            Check.badIndex("all is AWAY", () -> Worlds.allAway().level(c[0], c[1], c[2]));
        }
    }

    // ---- promise 10: top

    private static void promise10LeastAndGreatest() {
        Check.sentence("Promise 10: Returns the greatest y at which a cell of this column is not AIR");
        for (int kind = 1; kind <= 6; kind++) {
            CobbleWorld world = new CobbleWorld();
            for (int y = 0; y < 12; y++) {
                world.set(15, y, 0, kind);
                Check.equal("one more at y " + y, world.top(15, 0), y);
            }
            world.fill(15, 0, 0, 1, 11, 1, 0);
            Check.equal("y 11 alone", world.top(15, 0), 11);
        }
    }

    private static void promise10WithoutOne() {
        Check.sentence("Promise 10: -1 without one");
        CobbleWorld world = Worlds.fullOf(1);
        for (int[] c : new int[][] {{0, 0}, {15, 0}, {0, 15}, {15, 15}, {3, 9}}) {
            Check.equal(Wrong.told("full", c), world.top(c[0], c[1]), 11);
            world.fill(c[0], 0, c[1], 1, 12, 1, 0);
            Check.equal(Wrong.told("empty", c), world.top(c[0], c[1]), -1);
        }
        Check.equal("the column across", world.top(9, 3), 11);
    }

    private static void promise10Beyond() {
        Check.sentence("Promise 10: or if it is BEYOND");
        CobbleWorld world = Worlds.fullOf(1);
        world.send(5, true);
        for (int[] c : Worlds.BEYOND) {
            Check.equal(Wrong.told("top", c), world.top(c[0], c[2]), -1);
        }
        for (int[] c : Worlds.BESIDE_BEYOND) {
            Check.equal(Wrong.told("top", c), world.top(c[0], c[2]), 11);
        }
    }

    private static void promise10NoSuchColumn() {
        Check.sentence("Promise 10: Throws IndexOutOfBoundsException if there is no such column");
        for (int[] c : NO_COLUMN) {
            Refused.index(Wrong.told("top", c), Worlds::mixed, w -> w.top(c[0], c[1]));
            Check.badIndex("all is AWAY", () -> Worlds.allAway().top(c[0], c[1]));
        }
    }

    // ---- promise 11: count

    private static void promise11NoneAndAll() {
        Check.sentence("Promise 11: Returns how many cells that are not BEYOND are of it.");
        for (int full = 0; full <= 6; full++) {
            CobbleWorld world = Worlds.fullOf(full);
            for (int kind = 0; kind <= 6; kind++) {
                Check.equal("all of " + full + ": count " + kind, world.count(kind),
                        kind == full ? 3072 : 0);
            }
        }
        CobbleWorld flowing = new CobbleWorld();
        flowing.set(8, 0, 8, 6);
        flowing.tick(7);
        Check.equal("WATER of each LEVEL", flowing.count(6), 113);
    }

    private static void promise11NoneThatIsBeyond() {
        Check.sentence("Promise 11: cells that are not BEYOND");
        for (int kind = 0; kind <= 6; kind++) {
            CobbleWorld world = Worlds.fullOf(kind);
            for (int chunk = 0; chunk < 16; chunk++) {
                world.send(chunk, true);
                Check.equal("so many are AWAY: " + (chunk + 1), world.count(kind),
                        3072 - 192 * (chunk + 1));
            }
        }
    }

    private static void promise11NoSuchKind() {
        Check.sentence("Promise 11: Throws IllegalArgumentException if kind is not 0 to 6");
        for (int kind : Wrong.KINDS) {
            Refused.argument("count " + kind, Worlds::mixed, w -> w.count(kind));
        }
    }

    // ---- promise 12: look

    private static void promise12Neighbour() {
        Check.sentence("Promise 12: (1 for its NEIGHBOUR)");
        int[][] beside = {{7, 6, 8}, {9, 6, 8}, {8, 5, 8}, {8, 7, 8}, {8, 6, 7}, {8, 6, 9}};
        for (int kind = 1; kind <= 6; kind++) {
            for (int side = 0; side < 6; side++) {
                CobbleWorld world = new CobbleWorld();
                world.set(beside[side][0], beside[side][1], beside[side][2], kind);
                for (int to = 0; to < 6; to++) {
                    Check.equal("at SIDE " + side + ", look to " + to, world.look(8, 6, 8, to),
                            to == side ? 1 : 0);
                }
            }
        }
    }

    private static void promise12FarthestCell() {
        Check.sentence("Promise 12: Returns behind how many cells the first one is that is not AIR");
        int[][] from = {{15, 0, 15}, {0, 0, 15}, {15, 11, 0}, {0, 0, 0}, {15, 11, 15}, {0, 11, 0}};
        int[][] to = {{0, 0, 15}, {15, 0, 15}, {15, 0, 0}, {0, 11, 0}, {15, 11, 0}, {0, 11, 15}};
        int[] due = {15, 15, 11, 11, 15, 15};
        for (int side = 0; side < 6; side++) {
            CobbleWorld world = new CobbleWorld();
            world.set(to[side][0], to[side][1], to[side][2], 2);
            Check.equal("from end to end to SIDE " + side,
                    world.look(from[side][0], from[side][1], from[side][2], side), due[side]);
        }
    }

    private static void promise12FirstOne() {
        Check.sentence("Promise 12: Returns behind how many cells the first one is that is not AIR");
        CobbleWorld world = new CobbleWorld();
        for (int x = 0; x < 15; x++) {
            world.set(x, 0, 0, 1 + x % 6);
            Check.equal("the first one is at x " + x, world.look(15, 0, 0, 0), 15 - x);
        }
        Check.equal("from its other end", world.look(0, 0, 0, 1), 1);
    }

    private static void promise12NoneInTheWorld() {
        Check.sentence("Promise 12: 0 if there is none ahead of one that is BEYOND (the world's end)");
        CobbleWorld world = new CobbleWorld();
        for (int[] c : Worlds.CORNERS) {
            for (int side = 0; side < 6; side++) {
                Check.equal(Wrong.told("AIR", c) + " to SIDE " + side,
                        world.look(c[0], c[1], c[2], side), 0);
            }
        }
        CobbleWorld full = Worlds.fullOf(1);
        for (int[] c : Worlds.CORNERS) {
            Check.equal(Wrong.told("x", c), full.look(c[0], c[1], c[2], c[0] == 0 ? 0 : 1), 0);
            Check.equal(Wrong.told("y", c), full.look(c[0], c[1], c[2], c[1] == 0 ? 2 : 3), 0);
            Check.equal(Wrong.told("z", c), full.look(c[0], c[1], c[2], c[2] == 0 ? 4 : 5), 0);
            Check.equal(Wrong.told("inwards", c), full.look(c[0], c[1], c[2], c[0] == 0 ? 1 : 0), 1);
        }
    }

    private static void promise12NoneAheadOfAChunkThatIsAway() {
        Check.sentence("Promise 12: 0 if there is none ahead of one that is BEYOND (a CHUNK that is AWAY)");
        CobbleWorld world = new CobbleWorld();
        world.fill(0, 6, 6, 16, 1, 1, 1);
        world.fill(3, 6, 6, 10, 1, 1, 0);
        world.set(5, 6, 6, 1);
        Check.equal("it is HERE", world.look(10, 6, 6, 0), 5);
        world.send(5, true);
        Check.equal("neither one that is BEYOND nor one behind it", world.look(10, 6, 6, 0), 0);
        Check.equal("from its NEIGHBOUR", world.look(8, 6, 6, 0), 0);
        Check.equal("from the other side", world.look(3, 6, 6, 1), 0);
        world.set(8, 6, 6, 4);
        Check.equal("the last one ahead of it", world.look(10, 6, 6, 0), 2);
        Check.equal("from a cell that is BEYOND", world.look(7, 6, 6, 1), 1);
        Check.equal("within BEYOND", world.look(6, 6, 6, 1), 0);
    }

    private static void promise12TheCellItself() {
        Check.sentence("Promise 12: (the cell itself is not looked at)");
        for (int kind = 0; kind <= 6; kind++) {
            CobbleWorld world = new CobbleWorld();
            world.set(8, 6, 8, kind);
            for (int side = 0; side < 6; side++) {
                Check.equal("KIND " + kind + " to SIDE " + side, world.look(8, 6, 8, side), 0);
            }
        }
    }

    private static void promise12NoSuchCell() {
        Check.sentence("Promise 12: Throws IndexOutOfBoundsException if there is no such cell in the world");
        for (int[] c : Wrong.CELLS) {
            for (int side = 0; side < 6; side++) {
                int to = side;
                Check.badIndex(Wrong.told("look", c), () -> new CobbleWorld().look(c[0], c[1], c[2], to));
            }
            Refused.index(Wrong.told("look", c), Worlds::mixed, w -> w.look(c[0], c[1], c[2], 1));
        }
    }

    private static void promise12NoSuchSide() {
        Check.sentence("Promise 12: Throws IllegalArgumentException if side is not 0 to 5");
        for (int side : Wrong.SIDES) {
            Refused.argument("to SIDE " + side, Worlds::mixed, w -> w.look(0, 11, 0, side));
            Refused.argument("from BEYOND", Worlds::mixed, w -> w.look(4, 0, 4, side));
        }
    }

    private static void promise12FirstNamed() {
        Check.sentence("Promise 12: If several exceptions apply, the one that is named first is thrown.");
        for (int side : Wrong.SIDES) {
            Refused.index("no cell, no SIDE", Worlds::mixed, w -> w.look(16, 0, 0, side));
            Refused.index("no cell, no SIDE", Worlds::mixed, w -> w.look(0, 0, -1, side));
        }
    }

    // ---- promise 13: away

    private static void promise13EmptyAndFullSet() {
        Check.sentence("Promise 13: Returns the set of CHUNKS that are AWAY.");
        Check.equal("none", new CobbleWorld().away(), 0);
        CobbleWorld world = Worlds.allAway();
        Check.equal("all", world.away(), 65535);
        for (int chunk = 0; chunk < 16; chunk++) {
            world.send(chunk, false);
            Check.equal("all behind " + chunk, world.away(), 65536 - (2 << chunk));
        }
    }

    private static void promise13EachOne() {
        Check.sentence("Promise 13: Returns the set of CHUNKS that are AWAY.");
        for (int chunk = 0; chunk < 16; chunk++) {
            CobbleWorld world = new CobbleWorld();
            world.send(chunk, true);
            Check.equal("CHUNK " + chunk, world.away(), 1 << chunk);
            CobbleWorld other = Worlds.allAway();
            other.send(chunk, false);
            Check.equal("all but CHUNK " + chunk, other.away(), 65535 - (1 << chunk));
        }
    }

    // ---- promise 14: runs

    private static void promise14FewestAndMost() {
        Check.sentence("Promise 14: Returns how many RUNS it has");
        CobbleWorld world = Worlds.manyRuns();
        for (int chunk = 0; chunk < 16; chunk++) {
            Check.equal("CHUNK " + chunk, world.runs(chunk), chunk == 15 ? 192 : 1);
        }
        world.set(12, 0, 12, 6);
        Check.equal("the first two are one", world.runs(15), 191);
        world.set(15, 11, 15, 5);
        Check.equal("the last two are one", world.runs(15), 190);
    }

    private static void promise14WouldHave() {
        Check.sentence("Promise 14: or would have");
        CobbleWorld world = Worlds.manyRuns();
        world.send(15, true);
        world.send(0, true);
        Check.equal("it has", world.runs(15), 192);
        Check.equal("it has one", world.runs(0), 1);
        world.send(15, false);
        Check.equal("it would have", world.runs(15), 192);
        Check.equal("asking leaves it HERE", world.away(), 1);
    }

    private static void promise14NoSuchChunk() {
        Check.sentence("Promise 14: Throws IndexOutOfBoundsException if there is no such CHUNK");
        for (int chunk : Wrong.CHUNKS) {
            Refused.index("runs " + chunk, Worlds::mixed, w -> w.runs(chunk));
            Check.badIndex("all is AWAY", () -> Worlds.allAway().runs(chunk));
        }
    }

    // ---- promise 15: run

    private static void promise15FirstAndLast() {
        Check.sentence("Promise 15: the number of a RUN, from 0");
        for (int i = 0; i < 2; i++) {
            CobbleWorld world = Worlds.manyRuns();
            world.send(15, i == 1);
            Check.equal("first KIND", world.run(15, 0, 0), 5);
            Check.equal("second KIND", world.run(15, 1, 0), 6);
            Check.equal("last KIND but one", world.run(15, 190, 0), 5);
            Check.equal("last KIND", world.run(15, 191, 0), 6);
            Check.equal("last LEVEL but one", world.run(15, 190, 1), 0);
            Check.equal("last LEVEL", world.run(15, 191, 1), 8);
        }
    }

    private static void promise15FewestAndMostCells() {
        Check.sentence("Promise 15: 2 how many cells it has");
        CobbleWorld world = Worlds.manyRuns();
        Check.equal("one RUN has all", world.run(0, 0, 2), 192);
        for (int run = 0; run < 192; run++) {
            Check.equal("each has one", world.run(15, run, 2), 1);
        }
    }

    private static void promise15NoWater() {
        Check.sentence("Promise 15: 1 its LEVEL (0 if it is no WATER)");
        for (int kind = 0; kind <= 6; kind++) {
            CobbleWorld world = Worlds.fullOf(kind);
            for (int i = 0; i < 2; i++) {
                Check.equal("KIND " + kind, world.run(3, 0, 0), kind);
                Check.equal("LEVEL of KIND " + kind, world.run(3, 0, 1), kind == 6 ? 8 : 0);
                world.send(3, true);
            }
        }
        CobbleWorld flowing = new CobbleWorld();
        flowing.set(0, 0, 0, 6);
        flowing.tick(7);
        for (int run = 0; run < 4; run++) {
            Check.equal("LEVEL of RUN " + run, flowing.run(0, run, 1), 8 - run);
            Check.equal("LEVEL of RUN " + run, flowing.run(1, run, 1), 4 - run);
        }
    }

    private static void promise15NoSuchChunk() {
        Check.sentence("Promise 15: Throws IndexOutOfBoundsException if there is no such CHUNK");
        for (int chunk : Wrong.CHUNKS) {
            for (int what = 0; what < 3; what++) {
                int asked = what;
                Refused.index("CHUNK " + chunk, Worlds::mixed, w -> w.run(chunk, 0, asked));
            }
        }
    }

    private static void promise15NoSuchRun() {
        Check.sentence("Promise 15: Throws IndexOutOfBoundsException if there is no such CHUNK, or RUN");
        for (int run : Wrong.beside(0, 0)) {
            Refused.index("of one RUN: " + run, CobbleWorld::new, w -> w.run(0, run, 0));
            Refused.index("AWAY, of one RUN: " + run, Worlds::allAway, w -> w.run(15, run, 2));
        }
        for (int run : Wrong.beside(0, 191)) {
            Refused.index("of 192 RUNS: " + run, Worlds::manyRuns, w -> w.run(15, run, 1));
        }
        // What another CHUNK had, or this one had before, leaves no RUN behind.
        CobbleWorld world = Worlds.manyRuns();
        Check.equal("192", world.runs(15), 192);
        Check.badIndex("the other has one", () -> world.run(14, 1, 0));
        world.fill(12, 0, 12, 4, 12, 4, 0);
        Check.badIndex("now it has one", () -> world.run(15, 1, 0));
    }

    private static void promise15NoSuchNumber() {
        Check.sentence("Promise 15: Throws IllegalArgumentException if what is not 0 to 2");
        for (int what : Wrong.beside(0, 2)) {
            Refused.argument("what " + what, Worlds::mixed, w -> w.run(0, 0, what));
            Refused.argument("AWAY: what " + what, Worlds::mixed, w -> w.run(5, 1, what));
        }
    }

    private static void promise15FirstNamed() {
        Check.sentence("Promise 15: If several exceptions apply, the one that is named first is thrown.");
        for (int what : Wrong.beside(0, 2)) {
            Refused.index("no CHUNK, no what", Worlds::mixed, w -> w.run(16, 0, what));
            Refused.index("no RUN, no what", Worlds::mixed, w -> w.run(0, -1, what));
            Refused.index("no RUN, no what", CobbleWorld::new, w -> w.run(0, 1, what));
        }
    }
}
