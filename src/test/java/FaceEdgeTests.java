/** Promises 19 to 22 and the FACES, sentence by sentence: the boundary cases that they name. */
public final class FaceEdgeTests {
    private FaceEdgeTests() {
    }

    /** Cells of one LAYER, v by v, as KINDS; then the QUADS: KIND, u, v, how many u and v. */
    private static final String[][] LAYERS = {
        {"1000 0000 0000 0000", "10011"},
        {"0000 0000 0000 0001", "13311"},
        {"1111 1111 1111 1111", "10044"},
        {"1100 1000 0000 0000", "10021", "10111"},
        {"1000 1100 0000 0000", "10012", "11111"},
        {"0100 1110 0000 0000", "11012", "10111", "12111"},
        {"1110 1111 0000 0000", "10032", "13111"},
        {"1211 0000 0000 0000", "10011", "21011", "12021"},
        {"1000 2000 1000 1000", "10011", "20111", "10212"},
        {"1001 1001 0000 0110", "10012", "13012", "11321"},
        {"1011 1011 1111 1111", "10014", "12024", "11212"},
        {"1111 1121 1111 1111", "10041", "10123", "22111", "13113", "12212"}};

    public static void main(String[] args) {
        terms4EachPairOfKinds();
        terms4NoneIsAtTheTop();
        terms4NothingToWhatIsNotInTheWorld();
        terms4NothingToWhatIsAway();
        terms4HowQuadsAreLaid();
        terms4FromTheSmallestOn();
        terms4QuadsEndWithTheChunk();
        promise19NoneAndAll();
        promise19FirstAndLastChunk();
        promise19Away();
        promise19NoSuchChunk();
        promise19NoSuchSide();
        promise19FirstNamed();
        promise20FewestAndMost();
        promise20Away();
        promise20NoSuchChunk();
        promise20NoSuchSide();
        promise20FirstNamed();
        promise21FirstAndLast();
        promise21LayerByLayer();
        promise21AllOfTheWorld();
        promise21GreatestAndLeast();
        promise21NoSuchChunk();
        promise21NoSuchQuad();
        promise21QuadWithAWrongSide();
        promise21NoSuchSide();
        promise21NoSuchNumber();
        promise21FirstNamed();
        promise22WithoutAny();
        promise22NotCut();
        promise22JustWhatIsHere();
        Check.end();
    }

    /** CHUNK 5 has GLASS and LEAF by turns: each of its cells has a FACE to each SIDE, but below. */
    private static CobbleWorld manyFaces() {
        CobbleWorld world = new CobbleWorld();
        world.fill(4, 0, 4, 4, 12, 4, 2);
        for (int i = 0; i < 192; i++) {
            int x = 4 + i % 4;
            int z = 4 + i / 4 % 4;
            if ((x + i / 16 + z) % 2 == 1) {
                world.set(x, i / 16, z, 5);
            }
        }
        return world;
    }

    // ---- terms: FACES

    private static void terms4EachPairOfKinds() {
        Check.sentence("Terms 4 FACES: A cell that is not AIR has a FACE to a SIDE, if its NEIGHBOUR there is AIR, or is CLEAR and of another KIND");
        int[][] beside = {{8, 6, 9}, {10, 6, 9}, {9, 5, 9}, {9, 7, 9}, {9, 6, 8}, {9, 6, 10}};
        for (int kind = 0; kind <= 6; kind++) {
            for (int other = 0; other <= 6; other++) {
                boolean isClear = other == 0 || other == 2 || other >= 5;
                int due = kind != 0 && isClear && other != kind ? 1 : 0;
                // The other one has AIR to that SIDE: it has a FACE there, if it is not AIR itself.
                int ofOther = other == 0 ? 0 : 1;
                for (int side = 0; side < 6; side++) {
                    CobbleWorld world = new CobbleWorld();
                    world.set(9, 6, 9, kind);
                    world.set(beside[side][0], beside[side][1], beside[side][2], other);
                    Check.equal("KIND " + kind + " to KIND " + other + " at SIDE " + side,
                            world.faces(10, side), due + ofOther);
                }
            }
        }
    }

    private static void terms4NoneIsAtTheTop() {
        Check.sentence("Terms 4 FACES: or, at the SIDE 3 of y 11, is none");
        for (int kind = 0; kind <= 6; kind++) {
            CobbleWorld world = Worlds.fullOf(kind);
            for (int chunk = 0; chunk < 16; chunk++) {
                Check.equal("KIND " + kind, world.faces(chunk, 3), kind == 0 ? 0 : 16);
            }
            if (kind != 0) {
                Check.equal("at y 11", world.quad(15, 3, 0, 1), 11);
                Check.equal("of KIND", world.quad(15, 3, 0, 0), kind);
            }
        }
    }

    private static void terms4NothingToWhatIsNotInTheWorld() {
        Check.sentence("Terms 4 FACES: if its NEIGHBOUR there is AIR, or is CLEAR and of another KIND, or, at the SIDE 3 of y 11, is none");
        for (int kind = 1; kind <= 6; kind++) {
            CobbleWorld world = Worlds.fullOf(kind);
            for (int chunk = 0; chunk < 16; chunk++) {
                for (int side = 0; side < 6; side++) {
                    Check.equal("KIND " + kind + " in CHUNK " + chunk + " to SIDE " + side,
                            world.faces(chunk, side), side == 3 ? 16 : 0);
                }
            }
        }
    }

    private static void terms4NothingToWhatIsAway() {
        Check.sentence("Terms 4 FACES: if its NEIGHBOUR there is AIR, or is CLEAR and of another KIND (BEYOND is neither)");
        int[] beside = {4, 6, 1, 9};
        int[] side = {1, 0, 5, 4};
        for (int kind : new int[] {0, 2, 5, 6}) {
            CobbleWorld world = Worlds.fullOf(1);
            world.fill(4, 0, 4, 4, 12, 4, kind);
            for (int i = 0; i < 4; i++) {
                Check.equal("HERE", world.faces(beside[i], side[i]), 48);
            }
            world.send(5, true);
            for (int i = 0; i < 4; i++) {
                Check.equal("AWAY", world.faces(beside[i], side[i]), 0);
            }
        }
    }

    /** CHUNK 10 with a LAYER at y 5, x 9 or z 9 as a text tells it; its v begins at z 8 or y 3. */
    private static CobbleWorld layered(int side, String kinds) {
        CobbleWorld world = new CobbleWorld();
        for (int v = 0; v < 4; v++) {
            for (int u = 0; u < 4; u++) {
                int kind = kinds.charAt(5 * v + u) - '0';
                int x = side / 2 == 0 ? 9 : 8 + u;
                int y = side / 2 == 1 ? 5 : 3 + v;
                int z = side / 2 == 0 ? 8 + u : side / 2 == 1 ? 8 + v : 9;
                world.set(x, y, z, kind);
            }
        }
        return world;
    }

    private static void terms4HowQuadsAreLaid() {
        Check.sentence("Terms 4 FACES: it goes on to greater u, as long as there are FACES of the same KIND that are in no QUAD yet; then the whole of it to greater v, as long as all of it are such FACES");
        for (String[] told : LAYERS) {
            for (int side = 0; side < 6; side++) {
                CobbleWorld world = layered(side, told[0]);
                String call = told[0] + " to SIDE " + side;
                Check.equal(call, world.quads(10, side), told.length - 1);
                for (int quad = 1; quad < told.length && quad <= world.quads(10, side); quad++) {
                    int v = told[quad].charAt(2) - '0' + (side / 2 == 1 ? 8 : 3);
                    String due = told[quad].charAt(0) + (side / 2 == 1 ? " 5 " : " 9 ")
                            + (told[quad].charAt(1) - '0' + 8) + " " + v + " "
                            + told[quad].charAt(3) + " " + told[quad].charAt(4);
                    Check.equal(call, quad(world, 10, side, quad - 1), due);
                }
            }
        }
    }

    private static void terms4FromTheSmallestOn() {
        Check.sentence("Terms 4 FACES: LAYER by LAYER, from the smallest number on");
        CobbleWorld world = new CobbleWorld();
        world.set(11, 11, 11, 1);
        world.set(8, 0, 8, 2);
        world.set(9, 6, 10, 3);
        for (int side = 0; side < 6; side++) {
            int[] due = side == 2 ? new int[] {3, 1} : new int[] {2, 3, 1};
            Check.equal("to SIDE " + side, world.quads(10, side), due.length);
            for (int quad = 0; quad < due.length; quad++) {
                Check.equal("to SIDE " + side, world.quad(10, side, quad, 0), due[quad]);
            }
        }
        CobbleWorld stairs = new CobbleWorld();
        stairs.fill(8, 5, 8, 4, 1, 1, 1);
        stairs.fill(8, 6, 9, 4, 1, 1, 1);
        Check.equal("one does not go on in the next LAYER", stairs.quads(10, 3), 2);
    }

    private static void terms4QuadsEndWithTheChunk() {
        Check.sentence("Terms 4 FACES: The FACES of a CHUNK to a SIDE are laid together in QUADS");
        CobbleWorld world = new CobbleWorld();
        world.fill(0, 5, 0, 16, 1, 16, 4);
        for (int chunk = 0; chunk < 16; chunk++) {
            Check.equal("of CHUNK " + chunk, quad(world, chunk, 3, 0),
                    "4 5 " + chunk % 4 * 4 + " " + chunk / 4 * 4 + " 4 4");
            Check.equal("just one", world.quads(chunk, 3), 1);
        }
    }

    // ---- promise 19: faces

    private static void promise19NoneAndAll() {
        Check.sentence("Promise 19: Returns how many FACES it has to that SIDE (0 to 192)");
        CobbleWorld empty = new CobbleWorld();
        CobbleWorld full = Worlds.fullOf(2);
        CobbleWorld many = manyFaces();
        for (int side = 0; side < 6; side++) {
            Check.equal("all AIR to SIDE " + side, empty.faces(5, side), 0);
            Check.equal("all GLASS to SIDE " + side, full.faces(5, side), side == 3 ? 16 : 0);
            // Below y 0 there is no cell that a FACE could be to.
            Check.equal("as many as can be to SIDE " + side, many.faces(5, side), side == 2 ? 176 : 192);
        }
    }

    private static void promise19FirstAndLastChunk() {
        Check.sentence("Promise 19: Throws IndexOutOfBoundsException if there is no such CHUNK (there is)");
        for (int[] c : Worlds.CORNERS) {
            CobbleWorld world = new CobbleWorld();
            world.set(c[0], c[1], c[2], 1);
            int there = c[2] / 4 * 4 + c[0] / 4;
            for (int chunk = 0; chunk < 16; chunk++) {
                Check.equal(Wrong.told("above", c), world.faces(chunk, 3), chunk == there ? 1 : 0);
            }
            Check.equal(Wrong.told("x less", c), world.faces(there, 0), c[0] == 0 ? 0 : 1);
            Check.equal(Wrong.told("x more", c), world.faces(there, 1), c[0] == 0 ? 1 : 0);
            Check.equal(Wrong.told("below", c), world.faces(there, 2), c[1] == 0 ? 0 : 1);
            Check.equal(Wrong.told("z less", c), world.faces(there, 4), c[2] == 0 ? 0 : 1);
            Check.equal(Wrong.told("z more", c), world.faces(there, 5), c[2] == 0 ? 1 : 0);
        }
    }

    private static void promise19Away() {
        Check.sentence("Promise 19: (0 if it is AWAY)");
        CobbleWorld world = manyFaces();
        world.send(5, true);
        for (int side = 0; side < 6; side++) {
            Check.equal("AWAY, to SIDE " + side, world.faces(5, side), 0);
        }
        world.send(5, false);
        Check.equal("HERE again", world.faces(5, 3), 192);
    }

    private static void promise19NoSuchChunk() {
        Check.sentence("Promise 19: Throws IndexOutOfBoundsException if there is no such CHUNK");
        for (int chunk : Wrong.CHUNKS) {
            for (int side = 0; side < 6; side++) {
                int to = side;
                Refused.index("faces of " + chunk, Worlds::mixed, w -> w.faces(chunk, to));
            }
        }
    }

    private static void promise19NoSuchSide() {
        Check.sentence("Promise 19: Throws IllegalArgumentException if side is not 0 to 5");
        for (int side : Wrong.SIDES) {
            Refused.argument("faces to " + side, Worlds::mixed, w -> w.faces(15, side));
            Refused.argument("AWAY: faces to " + side, Worlds::mixed, w -> w.faces(5, side));
        }
    }

    private static void promise19FirstNamed() {
        Check.sentence("Promise 19: If several exceptions apply, the one that is named first is thrown.");
        for (int side : Wrong.SIDES) {
            Refused.index("no CHUNK, no SIDE", Worlds::mixed, w -> w.faces(16, side));
            Refused.index("no CHUNK, no SIDE", Worlds::mixed, w -> w.faces(-1, side));
        }
    }

    // ---- promise 20: quads

    private static void promise20FewestAndMost() {
        Check.sentence("Promise 20: Returns how many QUADS these are laid together in. (0 to 192)");
        CobbleWorld empty = new CobbleWorld();
        CobbleWorld many = manyFaces();
        CobbleWorld one = new CobbleWorld();
        one.fill(4, 0, 4, 4, 12, 4, 6);
        for (int side = 0; side < 6; side++) {
            Check.equal("all AIR to SIDE " + side, empty.quads(5, side), 0);
            Check.equal("all of one KIND to SIDE " + side, one.quads(5, side), side == 2 ? 0 : 1);
            Check.equal("as many as can be to SIDE " + side, many.quads(5, side), side == 2 ? 176 : 192);
        }
    }

    private static void promise20Away() {
        Check.sentence("Promise 20: Returns how many QUADS these are laid together in. (none if it is AWAY)");
        CobbleWorld world = manyFaces();
        world.send(5, true);
        for (int side = 0; side < 6; side++) {
            Check.equal("AWAY, to SIDE " + side, world.quads(5, side), 0);
        }
    }

    private static void promise20NoSuchChunk() {
        Check.sentence("Promise 20: Throws IndexOutOfBoundsException if there is no such CHUNK");
        for (int chunk : Wrong.CHUNKS) {
            for (int side = 0; side < 6; side++) {
                int to = side;
                Refused.index("quads of " + chunk, Worlds::mixed, w -> w.quads(chunk, to));
            }
        }
    }

    private static void promise20NoSuchSide() {
        Check.sentence("Promise 20: Throws IllegalArgumentException if side is not 0 to 5");
        for (int side : Wrong.SIDES) {
            Refused.argument("quads to " + side, Worlds::mixed, w -> w.quads(15, side));
            Refused.argument("AWAY: quads to " + side, Worlds::mixed, w -> w.quads(5, side));
        }
    }

    private static void promise20FirstNamed() {
        Check.sentence("Promise 20: If several exceptions apply, the one that is named first is thrown.");
        for (int side : Wrong.SIDES) {
            Refused.index("no CHUNK, no SIDE", Worlds::mixed, w -> w.quads(16, side));
            Refused.index("no CHUNK, no SIDE", Worlds::mixed, w -> w.quads(-1, side));
        }
    }

    // ---- promise 21: quad

    private static String quad(CobbleWorld world, int chunk, int side, int quad) {
        StringBuilder told = new StringBuilder();
        for (int what = 0; what < 6; what++) {
            told.append(what == 0 ? "" : " ").append(world.quad(chunk, side, quad, what));
        }
        return told.toString();
    }

    private static void promise21FirstAndLast() {
        Check.sentence("Promise 21: the number of a QUAD, from 0");
        CobbleWorld world = manyFaces();
        String[] first = {"2 4 4 0 1 1", "2 4 4 0 1 1", "5 1 4 4 1 1", "2 0 4 4 1 1",
            "2 4 4 0 1 1", "2 4 4 0 1 1"};
        String[] last = {"5 7 7 11 1 1", "5 7 7 11 1 1", "5 11 7 7 1 1", "5 11 7 7 1 1",
            "5 7 7 11 1 1", "5 7 7 11 1 1"};
        for (int side = 0; side < 6; side++) {
            Check.equal("first to SIDE " + side, quad(world, 5, side, 0), first[side]);
            Check.equal("last to SIDE " + side, quad(world, 5, side, side == 2 ? 175 : 191), last[side]);
        }
    }

    private static void promise21LayerByLayer() {
        Check.sentence("Promise 21: from 0, LAYER by LAYER, in each as they begin");
        CobbleWorld world = manyFaces();
        int[] layer = {4, 4, 1, 0, 4, 4};
        for (int side = 0; side < 6; side++) {
            int inLayer = side / 2 == 1 ? 16 : 48;
            for (int quad : new int[] {0, 1, 3, 4, inLayer - 1, inLayer, inLayer + 1}) {
                String call = "QUAD " + quad + " to SIDE " + side;
                int within = quad % inLayer;
                int startV = side / 2 == 1 ? 4 : 0;
                Check.equal(call + ": LAYER", world.quad(5, side, quad, 1), layer[side] + quad / inLayer);
                Check.equal(call + ": u", world.quad(5, side, quad, 2), 4 + within % 4);
                Check.equal(call + ": v", world.quad(5, side, quad, 3), startV + within / 4);
            }
        }
    }

    private static void promise21AllOfTheWorld() {
        Check.sentence("Promise 21: 1 the x, y or z of its LAYER, 2 and 3 the u and v at which it begins (all of the world)");
        CobbleWorld first = new CobbleWorld();
        CobbleWorld last = new CobbleWorld();
        first.set(1, 1, 2, 4);
        last.set(13, 10, 14, 4);
        String[] firstDue = {"4 1 2 1 1 1", "4 1 2 1 1 1", "4 1 1 2 1 1", "4 1 1 2 1 1",
            "4 2 1 1 1 1", "4 2 1 1 1 1"};
        String[] lastDue = {"4 13 14 10 1 1", "4 13 14 10 1 1", "4 10 13 14 1 1", "4 10 13 14 1 1",
            "4 14 13 10 1 1", "4 14 13 10 1 1"};
        for (int side = 0; side < 6; side++) {
            Check.equal("in CHUNK 0 to SIDE " + side, quad(first, 0, side, 0), firstDue[side]);
            Check.equal("in CHUNK 15 to SIDE " + side, quad(last, 15, side, 0), lastDue[side]);
        }
        CobbleWorld other = new CobbleWorld();
        other.set(13, 10, 1, 4);
        Check.equal("in CHUNK 3", quad(other, 3, 0, 0), "4 13 1 10 1 1");
        other.set(2, 10, 14, 4);
        Check.equal("in CHUNK 12", quad(other, 12, 0, 0), "4 2 14 10 1 1");
    }

    private static void promise21GreatestAndLeast() {
        Check.sentence("Promise 21: 4 and 5 how many u and v it has");
        CobbleWorld world = new CobbleWorld();
        world.fill(8, 0, 8, 4, 12, 4, 1);
        String[] due = {"1 8 8 0 4 12", "1 11 8 0 4 12", "", "1 11 8 8 4 4", "1 8 8 0 4 12",
            "1 11 8 0 4 12"};
        for (int side = 0; side < 6; side++) {
            if (side != 2) {
                Check.equal("a whole CHUNK to SIDE " + side, quad(world, 10, side, 0), due[side]);
            }
        }
        world.fill(8, 0, 8, 4, 1, 4, 0);
        Check.equal("a whole CHUNK to SIDE 2", quad(world, 10, 2, 0), "1 1 8 8 4 4");
        world.fill(8, 0, 8, 4, 12, 4, 0);
        world.set(11, 5, 11, 1);
        Check.equal("one cell", quad(world, 10, 2, 0), "1 5 11 11 1 1");
    }

    private static void promise21NoSuchChunk() {
        Check.sentence("Promise 21: Throws IndexOutOfBoundsException if there is no such CHUNK");
        for (int chunk : Wrong.CHUNKS) {
            for (int what = 0; what < 6; what++) {
                int asked = what;
                Refused.index("quad of " + chunk, Worlds::mixed, w -> w.quad(chunk, 3, 0, asked));
            }
        }
    }

    private static void promise21NoSuchQuad() {
        Check.sentence("Promise 21: or, with a side from 0 to 5, no such QUAD");
        for (int side = 0; side < 6; side++) {
            int to = side;
            int most = side == 2 ? 175 : 191;
            for (int quad : Wrong.beside(0, most)) {
                Check.badIndex("of as many as can be: " + quad, () -> manyFaces().quad(5, to, quad, 0));
            }
            Refused.index("none in AIR", CobbleWorld::new, w -> w.quad(5, to, 0, 0));
            Refused.index("AWAY", Worlds::mixed, w -> w.quad(5, to, 0, 0));
        }
        for (int quad : Wrong.beside(0, 0)) {
            Refused.index("of one: " + quad, () -> Worlds.fullOf(1), w -> w.quad(9, 3, quad, 1));
        }
        // What another CHUNK or SIDE has leaves no QUAD behind.
        CobbleWorld world = Worlds.fullOf(1);
        Check.equal("one to SIDE 3", world.quads(0, 3), 1);
        Check.badIndex("none to SIDE 2", () -> world.quad(0, 2, 0, 0));
    }

    private static void promise21QuadWithAWrongSide() {
        Check.sentence("Promise 21: Throws IndexOutOfBoundsException if there is no such CHUNK, or, with a side from 0 to 5, no such QUAD");
        for (int side : Wrong.SIDES) {
            for (int quad : Wrong.beside(0, 192)) {
                Refused.argument("QUAD " + quad, Worlds::mixed, w -> w.quad(0, side, quad, 0));
            }
            Refused.argument("no QUAD in AIR", CobbleWorld::new, w -> w.quad(0, side, 0, 0));
        }
    }

    private static void promise21NoSuchSide() {
        Check.sentence("Promise 21: Throws IllegalArgumentException if side is not 0 to 5");
        for (int side : Wrong.SIDES) {
            Refused.argument("quad to " + side, Worlds::mixed, w -> w.quad(0, side, 0, 0));
            Refused.argument("AWAY: quad to " + side, Worlds::mixed, w -> w.quad(5, side, 0, 0));
        }
    }

    private static void promise21NoSuchNumber() {
        Check.sentence("Promise 21: or what is not 0 to 5");
        for (int what : Wrong.beside(0, 5)) {
            Refused.argument("what " + what, Worlds::mixed, w -> w.quad(0, 3, 0, what));
            Refused.argument("last QUAD: what " + what, FaceEdgeTests::manyFaces,
                    w -> w.quad(5, 3, 191, what));
        }
    }

    private static void promise21FirstNamed() {
        Check.sentence("Promise 21: If several exceptions apply, the one that is named first is thrown.");
        for (int what : Wrong.beside(0, 5)) {
            Refused.index("no CHUNK, no SIDE, no what", Worlds::mixed, w -> w.quad(16, 6, 0, what));
            Refused.index("no CHUNK, no SIDE", Worlds::mixed, w -> w.quad(-1, -1, 0, 0));
            Refused.index("no CHUNK, no what", Worlds::mixed, w -> w.quad(16, 3, 0, what));
            Refused.index("no QUAD, no what", Worlds::mixed, w -> w.quad(0, 3, 192, what));
            Refused.index("no QUAD, no what", Worlds::mixed, w -> w.quad(0, 3, -1, what));
            Refused.argument("no SIDE, no what", Worlds::mixed, w -> w.quad(0, 6, 0, what));
        }
    }

    // ---- promise 22: gain

    private static void promise22WithoutAny() {
        Check.sentence("Promise 22: 0 without any");
        Check.equal("all AIR", new CobbleWorld().gain(), 0.0);
        Check.equal("all is AWAY", Worlds.allAway().gain(), 0.0);
    }

    private static void promise22NotCut() {
        Check.sentence("Promise 22: divided once by all of their QUADS, not cut");
        CobbleWorld world = new CobbleWorld();
        world.set(1, 1, 1, 1);
        Check.equal("one cell: 6 by 6", world.gain(), 1.0);
        world.set(2, 1, 1, 1);
        Check.equal("two cells: 10 by 6", world.gain(), 10.0 / 6.0);
        world.set(9, 5, 9, 1);
        Check.equal("and one in another CHUNK: 16 by 12", world.gain(), 16.0 / 12.0);
        Check.equal("all STONE: 256 by 16", Worlds.fullOf(1).gain(), 16.0);
    }

    private static void promise22JustWhatIsHere() {
        Check.sentence("Promise 22: Returns all FACES of CHUNKS that are HERE");
        CobbleWorld world = new CobbleWorld();
        world.fill(0, 1, 0, 4, 1, 4, 1);
        world.set(15, 5, 15, 1);
        // Both lie in a corner of x and z: so to two SIDES of each there is nothing.
        Check.equal("a plate and a cell", world.gain(), (16 + 16 + 8 + 4) / (2.0 + 2.0 + 4.0));
        world.send(15, true);
        Check.equal("the plate", world.gain(), (16 + 16 + 8) / 4.0);
        world.send(0, true);
        Check.equal("none", world.gain(), 0.0);
        world.send(15, false);
        Check.equal("the cell", world.gain(), 1.0);
    }
}
