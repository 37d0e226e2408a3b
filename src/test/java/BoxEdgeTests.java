/** Promises 24 to 26 and the CLIP, sentence by sentence: the boundary cases that they name. */
public final class BoxEdgeTests {
    private BoxEdgeTests() {
    }

    public static void main(String[] args) {
        termsNoClipAtFirst();
        termsLeastAndGreatestClip();
        termsWhereEachCellComesTo();
        promise24NoneAndAll();
        promise24FirstAndLastPlaces();
        promise24ANewClip();
        promise24BesideBeyond();
        promise24NoSuchBox();
        promise24Beyond();
        promise24FirstNamed();
        promise25LeastAndGreatest();
        promise25FourTimes();
        promise25NoClip();
        promise26FirstAndLastPlaces();
        promise26NoneAndAll();
        promise26AnotherLevel();
        promise26WithAndWithoutAir();
        promise26BesideBeyond();
        promise26NoClip();
        promise26NotInTheWorld();
        promise26Beyond();
        promise26CellsThatAreNotSet();
        promise26FirstNamed();
        Check.end();
    }

    // ---- terms: the CLIP

    private static void termsNoClipAtFirst() {
        Check.sentence("Terms 6 THE CLIP: there is none at first");
        Refused.state("turn()", CobbleWorld::new, CobbleWorld::turn);
        Refused.state("paste()", CobbleWorld::new, w -> w.paste(0, 0, 0, true));
    }

    private static void termsLeastAndGreatestClip() {
        Check.sentence("Terms 6 THE CLIP: w by h by d (1 to 8 each) of the x, y and z");
        int[][] sizes = {{1, 1, 1}, {8, 1, 1}, {1, 8, 1}, {1, 1, 8}, {8, 8, 1}, {1, 8, 8}, {8, 1, 8},
            {8, 8, 8}};
        for (int[] s : sizes) {
            CobbleWorld world = Worlds.fullOf(4);
            int cells = s[0] * s[1] * s[2];
            Check.equal(Wrong.told("copy", s), world.copy(2, 2, 2, s[0], s[1], s[2]), cells);
            world.fill(0, 0, 0, 16, 12, 16, 0);
            Check.equal("paste", world.paste(16 - s[0], 12 - s[1], 16 - s[2], true), cells);
            Check.equal("no other cell is set", world.count(4), cells);
            Check.equal("least cell", world.kind(16 - s[0], 12 - s[1], 16 - s[2]), 4);
            Check.equal("greatest cell", world.kind(15, 11, 15), 4);
        }
    }

    /** The KIND of the cell (i, j, k) of a box: no two of its rows are alike. */
    private static int kindAt(int i, int j, int k) {
        return 1 + (i * 5 + j * 3 + k * 2 + i * k) % 6;
    }

    private static void termsWhereEachCellComesTo() {
        Check.sentence("Terms 6 THE CLIP: To turn it once is to let the cell (i, j, k) of it come to (d - 1 - k, j, i), so that it is d by h by w then.");
        for (int[] s : new int[][] {{8, 2, 3}, {3, 2, 8}, {1, 2, 8}, {8, 2, 1}, {5, 2, 5}, {1, 8, 1}}) {
            CobbleWorld world = new CobbleWorld();
            for (int cell = 0; cell < s[0] * s[1] * s[2]; cell++) {
                int i = cell % s[0];
                int j = cell / s[0] % s[1];
                int k = cell / s[0] / s[1];
                world.set(i, j, k, kindAt(i, j, k));
            }
            world.copy(0, 0, 0, s[0], s[1], s[2]);
            world.turn();
            world.fill(0, 0, 0, 16, 12, 16, 0);
            Check.equal("all come along", world.paste(0, 0, 0, true), s[0] * s[1] * s[2]);
            for (int cell = 0; cell < s[0] * s[1] * s[2]; cell++) {
                int i = cell % s[0];
                int j = cell / s[0] % s[1];
                int k = cell / s[0] / s[1];
                Check.equal(Wrong.told("turned", i, j, k), world.kind(s[2] - 1 - k, j, i),
                        kindAt(i, j, k));
            }
        }
    }

    // ---- promise 24: copy

    private static void promise24NoneAndAll() {
        Check.sentence("Promise 24: Returns how many cells of it are not AIR.");
        for (int kind = 0; kind <= 6; kind++) {
            CobbleWorld world = Worlds.fullOf(kind);
            Check.equal("KIND " + kind, world.copy(3, 2, 3, 8, 8, 8), kind == 0 ? 0 : 512);
            world.set(10, 9, 10, kind == 0 ? 1 : 0);
            Check.equal("but one", world.copy(3, 2, 3, 8, 8, 8), kind == 0 ? 1 : 511);
            Check.equal("just beside it", world.copy(2, 1, 2, 8, 8, 8), kind == 0 ? 0 : 512);
        }
    }

    private static void promise24FirstAndLastPlaces() {
        Check.sentence("Promise 24: Throws IndexOutOfBoundsException if a cell of it is not in the world, or w, h or d is not 1 to 8 (all are)");
        for (int size = 1; size <= 8; size++) {
            CobbleWorld world = new CobbleWorld();
            for (int[] c : Worlds.CORNERS) {
                world.set(c[0], c[1], c[2], 2);
            }
            for (int[] c : Worlds.CORNERS) {
                int x = c[0] == 0 ? 0 : 16 - size;
                int y = c[1] == 0 ? 0 : 12 - size;
                int z = c[2] == 0 ? 0 : 16 - size;
                Check.equal("a cube at a corner", world.copy(x, y, z, size, size, size), 1);
            }
        }
    }

    private static void promise24ANewClip() {
        Check.sentence("Promise 24: Lets the CLIP be a box.");
        CobbleWorld world = Worlds.fullOf(3);
        world.copy(0, 0, 0, 8, 8, 8);
        world.set(5, 5, 5, 0);
        world.copy(5, 5, 5, 1, 1, 1);
        Check.equal("nothing is left of the greater one", world.paste(15, 11, 15, true), 1);
        Check.equal("it is AIR", world.kind(15, 11, 15), 0);
        String before = Sight.of(world);
        world.copy(1, 1, 1, 8, 8, 8);
        Check.equal("the world stays as it is", Sight.of(world), before);
        world.fill(0, 0, 0, 16, 12, 16, 1);
        Check.equal("the CLIP stays as it was", world.paste(0, 0, 0, true), 512);
        Check.equal("it has the AIR too", world.kind(4, 4, 4), 0);
        Check.equal("and the LAMPS", world.count(3), 511);
    }

    private static void promise24BesideBeyond() {
        Check.sentence("Promise 24: Throws IllegalStateException if one is BEYOND (none is)");
        for (int[] b : Worlds.SPARING_BEYOND) {
            CobbleWorld world = Worlds.fullOf(1);
            world.send(5, true);
            Check.equal(Wrong.told("copy", b), world.copy(b[0], 0, b[1], b[2], 8, b[3]),
                    b[2] * b[3] * 8);
        }
    }

    private static void promise24NoSuchBox() {
        Check.sentence("Promise 24: Throws IndexOutOfBoundsException if a cell of it is not in the world, or w, h or d is not 1 to 8");
        for (int[] b : Wrong.boxes(8)) {
            Refused.index(Wrong.told("copy", b), Worlds::mixed,
                    w -> w.copy(b[0], b[1], b[2], b[3], b[4], b[5]));
            Refused.index(Wrong.told("the first copy", b), Worlds::mixedWithoutClip,
                    w -> w.copy(b[0], b[1], b[2], b[3], b[4], b[5]));
        }
        Refused.index("as fill() may", Worlds::mixed, w -> w.copy(0, 0, 0, 16, 12, 16));
    }

    private static void promise24Beyond() {
        Check.sentence("Promise 24: Throws IllegalStateException if one is BEYOND");
        for (int[] b : Worlds.REACHING_BEYOND) {
            Refused.state(Wrong.told("copy", b), Worlds::mixed,
                    w -> w.copy(b[0], 4, b[1], b[2], 2, b[3]));
            Refused.state(Wrong.told("the first copy", b), Worlds::mixedWithoutClip,
                    w -> w.copy(b[0], 4, b[1], b[2], 2, b[3]));
        }
        Refused.state("all is AWAY", Worlds::allAway, w -> w.copy(0, 0, 0, 1, 1, 1));
    }

    private static void promise24FirstNamed() {
        Check.sentence("Promise 24: If several exceptions apply, the one that is named first is thrown.");
        Refused.index("no size, BEYOND", Worlds::mixed, w -> w.copy(4, 0, 4, 0, 1, 1));
        Refused.index("no size, BEYOND", Worlds::mixed, w -> w.copy(4, 0, 4, 1, 1, 9));
        Refused.index("not in the world, BEYOND", Worlds::mixed, w -> w.copy(4, 11, 4, 1, 2, 1));
        Refused.index("not in the world, BEYOND", Worlds::allAway, w -> w.copy(-1, 0, 0, 2, 1, 1));
    }

    // ---- promise 25: turn

    private static void promise25LeastAndGreatest() {
        Check.sentence("Promise 25: Returns how many x it has then.");
        for (int w = 1; w <= 8; w++) {
            for (int d = 1; d <= 8; d++) {
                CobbleWorld world = new CobbleWorld();
                world.copy(0, 0, 0, w, 8, d);
                Check.equal("once", world.turn(), d);
                Check.equal("twice", world.turn(), w);
                Check.equal("three times", world.turn(), d);
                Check.equal("four times", world.turn(), w);
            }
        }
    }

    private static void promise25FourTimes() {
        Check.sentence("Promise 25: Turns the CLIP once. (four times are none)");
        CobbleWorld world = Worlds.mixed();
        CobbleWorld turned = Worlds.mixed();
        String before = Sight.of(turned);
        for (int i = 0; i < 4; i++) {
            turned.turn();
            Check.equal("the world stays as it is", Sight.of(turned), before);
        }
        Check.equal("the CLIP is as before", Sight.ofClip(turned), Sight.ofClip(world));
    }

    private static void promise25NoClip() {
        Check.sentence("Promise 25: Throws IllegalStateException if there is none");
        Refused.state("turn()", CobbleWorld::new, CobbleWorld::turn);
        Refused.state("turn()", Worlds::mixedWithoutClip, CobbleWorld::turn);
        Refused.state("turn()", Worlds::allAway, CobbleWorld::turn);
        CobbleWorld world = new CobbleWorld();
        world.copy(0, 0, 0, 1, 1, 1);
        Check.equal("with one of AIR", world.turn(), 1);
    }

    // ---- promise 26: paste

    private static void promise26FirstAndLastPlaces() {
        Check.sentence("Promise 26: Throws IndexOutOfBoundsException if a cell would not be in the world (all would)");
        for (int size = 1; size <= 8; size++) {
            for (int[] c : Worlds.CORNERS) {
                CobbleWorld world = Worlds.fullOf(5);
                world.copy(4, 2, 4, size, size, size);
                world.fill(0, 0, 0, 16, 12, 16, 0);
                int x = c[0] == 0 ? 0 : 16 - size;
                int y = c[1] == 0 ? 0 : 12 - size;
                int z = c[2] == 0 ? 0 : 16 - size;
                Check.equal("a cube at a corner", world.paste(x, y, z, false), size * size * size);
                Check.equal(Wrong.told("corner", c), world.kind(c[0], c[1], c[2]), 5);
                Check.equal("no other cell", world.count(5), size * size * size);
            }
        }
    }

    private static void promise26NoneAndAll() {
        Check.sentence("Promise 26: Returns how many cells are of another KIND, or LEVEL, than before");
        CobbleWorld world = Worlds.fullOf(6);
        world.copy(0, 0, 0, 8, 8, 8);
        Check.equal("none", world.paste(8, 4, 8, true), 0);
        world.fill(0, 0, 0, 16, 12, 16, 4);
        Check.equal("all", world.paste(8, 4, 8, true), 512);
        Check.equal("none is left", world.paste(8, 4, 8, true), 0);
        Check.equal("one beside: three layers of its outside", world.paste(7, 3, 7, true), 512 - 343);
    }

    private static void promise26AnotherLevel() {
        Check.sentence("Promise 26: of another KIND, or LEVEL, than before");
        CobbleWorld world = new CobbleWorld();
        world.set(0, 0, 0, 6);
        world.tick(7);
        world.copy(0, 0, 0, 8, 1, 1);
        world.fill(0, 5, 5, 8, 1, 1, 6);
        Check.equal("the SPRING is as before", world.paste(0, 5, 5, true), 7);
        for (int x = 0; x < 8; x++) {
            Check.equal("its LEVEL", world.level(x, 5, 5), 8 - x);
        }
        Check.equal("all are as before", world.paste(0, 5, 5, true), 0);
        world.set(7, 5, 5, 6);
        Check.equal("one has LEVEL 1 again", world.paste(0, 5, 5, false), 1);
    }

    private static void promise26WithAndWithoutAir() {
        Check.sentence("Promise 26: whether cells that are AIR in the CLIP are set, too");
        CobbleWorld world = new CobbleWorld();
        world.set(1, 0, 0, 2);
        world.copy(0, 0, 0, 2, 1, 1);
        world.fill(8, 8, 8, 2, 1, 1, 1);
        Check.equal("without", world.paste(8, 8, 8, false), 1);
        Check.equal("STONE is left", world.kind(8, 8, 8), 1);
        Check.equal("GLASS is set", world.kind(9, 8, 8), 2);
        Check.equal("with", world.paste(8, 8, 8, true), 1);
        Check.equal("AIR is set", world.kind(8, 8, 8), 0);
        CobbleWorld full = Worlds.fullOf(1);
        full.set(0, 0, 0, 0);
        full.copy(0, 0, 0, 1, 1, 1);
        Check.equal("AIR alone, without", full.paste(5, 5, 5, false), 0);
        Check.equal("STONE is left", full.count(1), 3071);
        Check.equal("AIR alone, with", full.paste(5, 5, 5, true), 1);
        Check.equal("AIR is set", full.count(1), 3070);
    }

    private static void promise26BesideBeyond() {
        Check.sentence("Promise 26: Throws IllegalArgumentException if one would be BEYOND (none would)");
        for (int[] p : new int[][] {{1, 4}, {1, 6}, {8, 4}, {8, 7}, {4, 2}, {7, 2}, {4, 8}, {7, 8}}) {
            CobbleWorld world = Worlds.mixed();
            world.fill(p[0], 9, p[1], 3, 2, 2, 0);
            Check.equal(Wrong.told("paste", p), world.paste(p[0], 9, p[1], false), 12);
        }
        // Turned, the CLIP of 3 by 2 by 2 is 2 by 2 by 3.
        for (int[] p : new int[][] {{2, 4}, {2, 7}, {8, 4}, {8, 7}, {4, 1}, {7, 1}, {4, 8}, {7, 8}}) {
            CobbleWorld world = Worlds.mixed();
            world.turn();
            world.fill(p[0], 9, p[1], 2, 2, 3, 0);
            Check.equal(Wrong.told("paste turned", p), world.paste(p[0], 9, p[1], false), 12);
        }
    }

    private static void promise26NoClip() {
        Check.sentence("Promise 26: Throws IllegalStateException if there is no CLIP");
        Refused.state("paste", CobbleWorld::new, w -> w.paste(0, 0, 0, true));
        Refused.state("paste", Worlds::mixedWithoutClip, w -> w.paste(1, 9, 1, false));
    }

    private static void promise26NotInTheWorld() {
        Check.sentence("Promise 26: Throws IndexOutOfBoundsException if a cell would not be in the world");
        int[][] places = {{-1, 5, 9}, {14, 5, 9}, {16, 5, 9}, {9, -1, 9}, {9, 11, 9}, {9, 12, 9},
            {9, 5, -1}, {9, 5, 15}, {9, 5, 16}, {-1, -1, -1}, {14, 11, 15},
            {Integer.MIN_VALUE, 5, 9}, {Integer.MAX_VALUE, 5, 9}, {9, Integer.MIN_VALUE, 9},
            {9, Integer.MAX_VALUE, 9}, {9, 5, Integer.MIN_VALUE}, {9, 5, Integer.MAX_VALUE}};
        for (int[] p : places) {
            Refused.index(Wrong.told("paste", p), Worlds::mixed, w -> w.paste(p[0], p[1], p[2], true));
            Refused.index(Wrong.told("paste", p), Worlds::mixed, w -> w.paste(p[0], p[1], p[2], false));
        }
        CobbleWorld world = Worlds.mixed();
        world.turn();
        Check.badIndex("turned, it has two x", () -> world.paste(15, 5, 9, true));
        Check.badIndex("turned, it has three z", () -> world.paste(9, 5, 14, true));
        Check.equal("turned, it is in the world", world.paste(14, 5, 13, true) > 0 ? 1 : 0, 1);
    }

    private static void promise26Beyond() {
        Check.sentence("Promise 26: Throws IllegalArgumentException if one would be BEYOND");
        int[][] places = {{2, 4}, {7, 4}, {4, 3}, {4, 7}, {2, 3}, {7, 3}, {2, 7}, {7, 7}, {5, 5}};
        for (int[] p : places) {
            Refused.argument(Wrong.told("paste", p), Worlds::mixed, w -> w.paste(p[0], 9, p[1], true));
            Refused.argument(Wrong.told("paste", p), Worlds::mixed, w -> w.paste(p[0], 0, p[1], false));
        }
    }

    /** A CLIP of AIR alone, and CHUNK 5 AWAY. */
    private static CobbleWorld clipOfAir() {
        CobbleWorld world = new CobbleWorld();
        world.copy(0, 0, 0, 2, 2, 2);
        world.fill(0, 0, 0, 16, 12, 16, 1);
        world.send(5, true);
        return world;
    }

    private static void promise26CellsThatAreNotSet() {
        Check.sentence("Promise 26: (all must be in the world, and not BEYOND, also those that are not set)");
        Refused.index("not in the world", BoxEdgeTests::clipOfAir, w -> w.paste(15, 0, 0, false));
        Refused.index("not in the world", BoxEdgeTests::clipOfAir, w -> w.paste(0, 11, 0, false));
        Refused.argument("BEYOND", BoxEdgeTests::clipOfAir, w -> w.paste(3, 0, 4, false));
        Refused.argument("BEYOND", BoxEdgeTests::clipOfAir, w -> w.paste(5, 5, 5, false));
        Check.equal("neither", clipOfAir().paste(14, 10, 14, false), 0);
    }

    private static void promise26FirstNamed() {
        Check.sentence("Promise 26: If several exceptions apply, the one that is named first is thrown.");
        Refused.state("no CLIP, no such place", Worlds::mixedWithoutClip, w -> w.paste(-1, 0, 0, true));
        Refused.state("no CLIP, no such place", Worlds::mixedWithoutClip, w -> w.paste(0, 12, 0, true));
        Refused.state("no CLIP, BEYOND", Worlds::mixedWithoutClip, w -> w.paste(4, 0, 4, true));
        Refused.state("no CLIP, all is AWAY", Worlds::allAway, w -> w.paste(16, 0, 0, true));
        Refused.index("no such place, BEYOND", Worlds::mixed, w -> w.paste(4, 11, 4, true));
        Refused.index("no such place, BEYOND", Worlds::mixed, w -> w.paste(4, -1, 4, false));
    }
}
