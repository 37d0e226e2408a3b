/** Promises 19 to 22: faces, and how they are laid together. */
public final class FaceTests {
    private FaceTests() {
    }

    public static void main(String[] args) {
        promise19OneCell();
        promise19Edges();
        promise19Neighbours();
        promise19Away();
        promise20Quads();
        promise21NumbersOfEachSide();
        promise21Order();
        promise21WrongInputs();
        promise22Gain();
        wrongInputs();
        Check.end();
    }

    private static void promise19OneCell() {
        for (int kind = 0; kind <= 6; kind++) {
            CobbleWorld world = new CobbleWorld();
            world.set(5, 5, 6, kind);
            for (int side = 0; side < 6; side++) {
                Check.equal("19: KIND " + kind, world.faces(5, side), kind == 0 ? 0 : 1);
                Check.equal("19: no other CHUNK", world.faces(6, side) + world.faces(9, side), 0);
            }
        }
    }

    private static void promise19Edges() {
        CobbleWorld world = new CobbleWorld();
        world.fill(0, 0, 0, 16, 12, 16, 6);
        for (int chunk = 0; chunk < 16; chunk++) {
            for (int side = 0; side < 6; side++) {
                Check.equal("19: only at the SIDE 3 of y 11", world.faces(chunk, side),
                        side == 3 ? 16 : 0);
            }
            Check.equal("19: it is y 11", world.quad(chunk, 3, 0, 1), 11);
        }
        world.fill(0, 11, 0, 16, 1, 16, 1);
        Check.equal("19: not below STONE", world.quad(0, 3, 0, 1), 11);
        Check.equal("19: no more than these", world.faces(0, 3), 16);
    }

    /** Two cells beside one another: x 5 of the one KIND, x 6 of the other one. */
    private static void promise19Neighbours() {
        for (int one = 1; one <= 6; one++) {
            for (int other = 1; other <= 6; other++) {
                CobbleWorld world = new CobbleWorld();
                world.set(5, 5, 5, one);
                world.set(6, 5, 5, other);
                boolean isClear = other == 2 || other == 5 || other == 6;
                boolean isSeen = isClear && one != other;
                Check.equal("19: " + one + " beside " + other, world.faces(5, 1), isSeen ? 2 : 1);
            }
        }
        CobbleWorld flowing = new CobbleWorld();
        flowing.set(4, 0, 4, 6);
        flowing.tick(1);
        Check.equal("19: WATER of another LEVEL", flowing.faces(5, 1), 2);
        Check.equal("19: to the SIDE 0", flowing.faces(5, 0), 1);
    }

    private static void promise19Away() {
        CobbleWorld world = new CobbleWorld();
        world.set(3, 5, 1, 1);
        world.set(4, 5, 2, 1);
        Check.equal("19: to the CHUNK beside", world.faces(0, 1), 1);
        Check.equal("19: and back", world.faces(1, 0), 1);
        world.send(1, true);
        Check.equal("19: not to what is BEYOND", world.faces(0, 1), 0);
        Check.equal("19: the others stay", world.faces(0, 0), 1);
        for (int side = 0; side < 6; side++) {
            Check.equal("19: AWAY", world.faces(1, side), 0);
            Check.equal("20: AWAY", world.quads(1, side), 0);
        }
        Check.badIndex("21: AWAY", () -> world.quad(1, 3, 0, 0));
    }

    private static void promise20Quads() {
        CobbleWorld world = new CobbleWorld();
        Check.equal("20: none", world.quads(5, 3), 0);
        world.fill(2, 4, 2, 8, 1, 8, 1);
        Check.equal("20: FACES of the middle", world.faces(5, 3), 16);
        Check.equal("20: one QUAD", world.quads(5, 3), 1);
        Check.equal("20: one of each CHUNK", world.quads(0, 3), 1);
        Check.equal("20: its FACES", world.faces(0, 3), 4);
        world.set(5, 4, 5, 4);
        Check.equal("20: another KIND within", world.quads(5, 3), 5);
        Check.equal("20: it is a FACE as well", world.faces(5, 3), 16);
        world.set(5, 4, 5, 0);
        Check.equal("20: a hole", world.quads(5, 3), 4);
        Check.equal("20: FACES into the hole", world.faces(5, 0), 1);
        CobbleWorld stairs = new CobbleWorld();
        stairs.fill(4, 1, 4, 4, 1, 1, 1);
        stairs.fill(4, 2, 5, 4, 1, 1, 1);
        Check.equal("20: not over LAYERS", stairs.quads(5, 3), 2);
        CobbleWorld water = new CobbleWorld();
        water.set(5, 0, 5, 6);
        water.tick(2);
        Check.equal("20: LEVELS make no difference", quad(water, 5, 3, 0), "6 0 4 4 3 3");
    }

    private static String quad(CobbleWorld world, int chunk, int side, int quad) {
        StringBuilder told = new StringBuilder();
        for (int what = 0; what < 6; what++) {
            told.append(what == 0 ? "" : " ").append(world.quad(chunk, side, quad, what));
        }
        return told.toString();
    }

    private static void promise21NumbersOfEachSide() {
        CobbleWorld world = new CobbleWorld();
        world.fill(9, 3, 13, 2, 4, 3, 5);
        String[] due = {"5 9 13 3 3 4", "5 10 13 3 3 4", "5 3 9 13 2 3", "5 6 9 13 2 3",
            "5 13 9 3 2 4", "5 15 9 3 2 4"};
        for (int side = 0; side < 5; side++) {
            Check.equal("21: one QUAD", world.quads(14, side), 1);
            Check.equal("21: SIDE " + side, quad(world, 14, side, 0), due[side]);
        }
        Check.equal("21: none to the end of the world", world.quads(14, 5), 0);
        world.fill(9, 3, 15, 2, 4, 1, 0);
        Check.equal("21: SIDE 5", quad(world, 14, 5, 0), "5 14 9 3 2 4");
    }

    private static void promise21Order() {
        CobbleWorld world = new CobbleWorld();
        world.fill(4, 2, 4, 2, 1, 2, 1);
        world.fill(6, 2, 5, 2, 1, 1, 1);
        world.set(7, 2, 4, 2);
        world.set(4, 2, 7, 1);
        world.set(4, 0, 7, 3);
        // Of y 2, z by z: STONE STONE AIR GLASS, four of STONE, AIR, STONE and AIR.
        Check.equal("21: five QUADS", world.quads(5, 3), 5);
        Check.equal("21: the lowest LAYER is first", quad(world, 5, 3, 0), "3 0 4 7 1 1");
        Check.equal("21: first to u, then to v", quad(world, 5, 3, 1), "1 2 4 4 2 2");
        Check.equal("21: as they begin", quad(world, 5, 3, 2), "2 2 7 4 1 1");
        Check.equal("21: what is left", quad(world, 5, 3, 3), "1 2 6 5 2 1");
        Check.equal("21: the last", quad(world, 5, 3, 4), "1 2 4 7 1 1");
        CobbleWorld wide = new CobbleWorld();
        wide.fill(4, 2, 4, 3, 1, 1, 1);
        wide.fill(4, 2, 5, 2, 1, 2, 1);
        Check.equal("21: the whole of it goes on, or nothing", quad(wide, 5, 3, 0), "1 2 4 4 3 1");
        Check.equal("21: the rest", quad(wide, 5, 3, 1), "1 2 4 5 2 2");
    }

    private static void promise21WrongInputs() {
        CobbleWorld world = new CobbleWorld();
        world.set(5, 5, 5, 1);
        for (int chunk : new int[] {-1, 16, Integer.MIN_VALUE, Integer.MAX_VALUE}) {
            Check.badIndex("21: no such CHUNK", () -> world.quad(chunk, 3, 0, 0));
            Check.badIndex("21: CHUNK ahead of all", () -> world.quad(chunk, 6, 0, 6));
        }
        for (int quad : new int[] {-1, 1, 192, Integer.MIN_VALUE, Integer.MAX_VALUE}) {
            Check.badIndex("21: no such QUAD", () -> world.quad(5, 3, quad, 0));
            Check.badIndex("21: QUAD ahead of what", () -> world.quad(5, 3, quad, 6));
            Check.badArgument("21: side ahead of QUAD", () -> world.quad(5, 6, quad, 0));
            Check.badArgument("21: side ahead of QUAD", () -> world.quad(5, -1, quad, 6));
        }
        for (int what : new int[] {-1, 6, Integer.MIN_VALUE, Integer.MAX_VALUE}) {
            Check.badArgument("21: no such number", () -> world.quad(5, 3, 0, what));
        }
    }

    private static void promise22Gain() {
        CobbleWorld world = new CobbleWorld();
        Check.equal("22: without any", world.gain(), 0.0);
        world.set(9, 5, 9, 1);
        Check.equal("22: one cell", world.gain(), 1.0);
        world.fill(4, 5, 4, 4, 1, 4, 1);
        Check.equal("22: a plate, too", world.gain(), 54.0 / 12.0);
        world.set(13, 5, 13, 1);
        Check.equal("22: not cut", world.gain(), 60.0 / 18.0);
        world.send(5, true);
        Check.equal("22: AWAY does not count", world.gain(), 1.0);
        world.send(10, true);
        world.send(15, true);
        Check.equal("22: all are AWAY", world.gain(), 0.0);
        for (int chunk = 0; chunk < 16; chunk++) {
            CobbleWorld plate = new CobbleWorld();
            plate.fill(chunk % 4 * 4 + 1, 5, chunk / 4 * 4 + 1, 2, 1, 2, 1);
            Check.equal("22: each CHUNK counts", plate.gain(), 16.0 / 6.0);
        }
    }

    private static void wrongInputs() {
        CobbleWorld world = new CobbleWorld();
        for (int wrong : new int[] {-1, 16, Integer.MIN_VALUE, Integer.MAX_VALUE}) {
            Check.badIndex("19: no such CHUNK", () -> world.faces(wrong, 0));
            Check.badIndex("20: no such CHUNK", () -> world.quads(wrong, 0));
            Check.badIndex("19: CHUNK ahead of side", () -> world.faces(wrong, 6));
            Check.badIndex("20: CHUNK ahead of side", () -> world.quads(wrong, 6));
        }
        for (int wrong : new int[] {-1, 6, Integer.MIN_VALUE, Integer.MAX_VALUE}) {
            Check.badArgument("19: no such SIDE", () -> world.faces(0, wrong));
            Check.badArgument("20: no such SIDE", () -> world.quads(0, wrong));
        }
    }
}
