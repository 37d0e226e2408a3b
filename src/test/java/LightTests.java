/** Promises 16 to 18 and 23: light. */
public final class LightTests {
    private static final int[][] OUTSIDE = {{-1, 0, 0}, {16, 0, 0}, {0, -1, 0}, {0, 12, 0},
        {0, 0, -1}, {0, 0, 16}, {Integer.MIN_VALUE, 0, 0}, {0, Integer.MAX_VALUE, 0}};

    private LightTests() {
    }

    public static void main(String[] args) {
        promise16OpenCells();
        promise16SkyThroughAHole();
        promise16ThickCells();
        promise16Away();
        promise17Glow();
        promise17GlowThroughThickCells();
        promise17Away();
        promise17FollowsEveryChange();
        promise18Dark();
        promise23Brightness();
        wrongInputs();
        Check.end();
    }

    private static CobbleWorld roofed() {
        CobbleWorld world = new CobbleWorld();
        world.fill(0, 11, 0, 16, 1, 16, 1);
        return world;
    }

    private static void promise16OpenCells() {
        CobbleWorld world = new CobbleWorld();
        Check.equal("16: at the ground", world.sky(0, 0, 0), 15);
        world.fill(5, 6, 5, 1, 2, 1, 2);
        Check.equal("16: GLASS", world.sky(5, 6, 5), 15);
        Check.equal("16: below GLASS", world.sky(5, 0, 5), 15);
        for (int kind : new int[] {1, 3, 4}) {
            world.set(9, 5, 9, kind);
            Check.equal("16: not CLEAR", world.sky(9, 5, 9), 0);
            Check.equal("16: below it", world.sky(9, 4, 9), 14);
            Check.equal("16: above it", world.sky(9, 6, 9), 15);
        }
        for (int kind : new int[] {5, 6}) {
            world.set(9, 5, 9, kind);
            Check.equal("16: THICK", world.sky(9, 5, 9), 13);
            Check.equal("16: below what is THICK", world.sky(9, 4, 9), 14);
        }
    }

    private static void promise16SkyThroughAHole() {
        CobbleWorld world = roofed();
        Check.equal("16: no light", world.sky(8, 5, 8), 0);
        world.set(8, 11, 8, 0);
        Check.equal("16: in the hole", world.sky(8, 11, 8), 15);
        Check.equal("16: below it", world.sky(8, 0, 8), 15);
        Check.equal("16: beside it", world.sky(7, 3, 8), 14);
        Check.equal("16: across", world.sky(5, 3, 12), 8);
        Check.equal("16: in a corner", world.sky(15, 0, 15), 1);
        Check.equal("16: in the one far away", world.sky(0, 0, 0), 0);
        Check.equal("16: just lit", world.sky(0, 0, 2), 1);
        world.set(8, 11, 8, 2);
        Check.equal("16: GLASS in the hole", world.sky(8, 0, 8), 15);
        world.set(8, 11, 8, 5);
        Check.equal("16: LEAF in the hole", world.sky(8, 0, 8), 0);
        Check.equal("16: LEAF has nothing to take from", world.sky(8, 11, 8), 0);
        world.set(8, 11, 8, 0);
        world.set(8, 5, 8, 1);
        Check.equal("16: round a block", world.sky(8, 4, 8), 11);
    }

    private static void promise16ThickCells() {
        CobbleWorld world = roofed();
        world.fill(0, 1, 0, 16, 10, 16, 1);
        world.fill(0, 0, 1, 16, 1, 15, 1);
        world.fill(0, 1, 0, 1, 11, 1, 0);
        world.fill(2, 0, 0, 3, 1, 1, 6);
        // A tunnel along x: AIR, AIR, three of WATER, then AIR.
        int[] due = {15, 14, 12, 10, 8, 7, 6, 5, 4, 3, 2, 1, 0, 0, 0, 0};
        for (int x = 0; x < 16; x++) {
            Check.equal("16: in the tunnel at " + x, world.sky(x, 0, 0), due[x]);
        }
    }

    private static void promise16Away() {
        CobbleWorld world = roofed();
        world.set(4, 11, 4, 0);
        Check.equal("16: from the CHUNK beside", world.sky(3, 0, 4), 14);
        world.send(5, true);
        Check.equal("16: nothing comes from BEYOND", world.sky(3, 0, 4), 0);
        Check.badState("16: BEYOND", () -> world.sky(4, 0, 4));
        world.send(5, false);
        Check.equal("16: once more", world.sky(3, 0, 4), 14);
        world.send(4, true);
        Check.equal("16: none goes through it", world.sky(3, 0, 3), 13);
    }

    private static void promise17Glow() {
        CobbleWorld world = new CobbleWorld();
        Check.equal("17: without LAMPS", world.glow(8, 5, 8), 0);
        world.set(8, 5, 8, 3);
        Check.equal("17: a LAMP", world.glow(8, 5, 8), 12);
        for (int far = 1; far < 8; far++) {
            Check.equal("17: so far", world.glow(8 - far, 5, 8), 12 - far);
        }
        Check.equal("17: across", world.glow(11, 3, 4), 3);
        Check.equal("17: just lit", world.glow(15, 5, 12), 1);
        Check.equal("17: no more", world.glow(15, 5, 13), 0);
        Check.equal("17: OPEN cells glow likewise", world.glow(8, 6, 8), 11);
        world.set(7, 5, 8, 1);
        Check.equal("17: STONE", world.glow(7, 5, 8), 0);
        Check.equal("17: behind STONE", world.glow(6, 5, 8), 8);
        world.set(7, 5, 8, 2);
        Check.equal("17: GLASS", world.glow(7, 5, 8), 11);
        world.set(3, 5, 8, 3);
        Check.equal("17: the greater of two", world.glow(4, 5, 8), 11);
        Check.equal("17: the other LAMP", world.glow(3, 5, 8), 12);
    }

    private static void promise17GlowThroughThickCells() {
        CobbleWorld world = roofed();
        world.fill(0, 0, 0, 16, 12, 16, 1);
        world.fill(0, 4, 4, 16, 1, 1, 0);
        world.set(2, 4, 4, 3);
        world.set(3, 4, 4, 5);
        world.set(4, 4, 4, 6);
        int[] due = {10, 11, 12, 10, 8, 7, 6, 5, 4, 3, 2, 1, 0, 0, 0, 0};
        for (int x = 0; x < 16; x++) {
            Check.equal("17: in the tunnel at " + x, world.glow(x, 4, 4), due[x]);
        }
    }

    private static void promise17Away() {
        CobbleWorld world = roofed();
        world.set(4, 5, 4, 3);
        Check.equal("17: beside it", world.glow(3, 5, 4), 11);
        world.send(5, true);
        Check.equal("17: nothing comes from BEYOND", world.glow(3, 5, 4), 0);
        Check.badState("17: BEYOND", () -> world.glow(4, 5, 4));
    }

    /** Each call that sets something, behind one that asked for light. */
    private static void promise17FollowsEveryChange() {
        CobbleWorld world = new CobbleWorld();
        Check.equal("17: dark", world.glow(5, 5, 5), 0);
        world.set(5, 5, 5, 3);
        Check.equal("17: behind set()", world.glow(5, 5, 5), 12);
        world.fill(5, 5, 5, 1, 1, 1, 0);
        Check.equal("17: behind fill()", world.glow(5, 5, 5), 0);
        Check.equal("17: with a LAMP", world.darkWith(5, 5, 5, 3), 0);
        Check.equal("17: behind darkWith()", world.glow(5, 5, 5), 0);
        world.set(8, 8, 8, 3);
        world.copy(8, 8, 8, 1, 1, 1);
        Check.equal("17: far away", world.glow(1, 1, 1), 0);
        world.paste(1, 1, 1, true);
        Check.equal("17: behind paste()", world.glow(1, 1, 1), 12);
        world.landscape(1);
        Check.equal("17: behind landscape()", world.glow(8, 8, 8), 0);
        world.fill(0, 0, 0, 16, 12, 16, 0);
        world.set(3, 9, 3, 4);
        Check.equal("17: below SAND", world.sky(3, 8, 3), 14);
        world.tick(1);
        Check.equal("17: behind tick()", world.sky(3, 8, 3), 0);
        world.send(0, true);
        Check.equal("17: behind send()", world.dark(15), 0);
    }

    private static void promise18Dark() {
        CobbleWorld world = roofed();
        Check.equal("18: all that is CLEAR", world.dark(1), 2816);
        Check.equal("18: STONE does not count", world.dark(15), 2816);
        world.fill(0, 0, 0, 16, 10, 16, 1);
        world.set(8, 10, 8, 3);
        // The LAMP lights a flat room: 4 cells with 11, 8 with 10, and so on.
        Check.equal("18: below 15", world.dark(15), 255);
        Check.equal("18: below 12", world.dark(12), 255);
        Check.equal("18: below 11", world.dark(11), 251);
        Check.equal("18: below 10", world.dark(10), 243);
        world.set(0, 11, 0, 0);
        Check.equal("18: SKY counts too", world.dark(10), 243 - 21);
        world.fill(12, 10, 12, 4, 1, 4, 6);
        Check.equal("18: WATER counts", world.dark(15), 254);
        world.send(15, true);
        Check.equal("18: BEYOND does not", world.dark(15), 238);
        for (int light : new int[] {0, 16, -1, Integer.MIN_VALUE, Integer.MAX_VALUE}) {
            Check.badArgument("18: dark(" + light + ")", () -> world.dark(light));
        }
        Check.equal("18: an empty world", new CobbleWorld().dark(15), 0);
    }

    private static void promise23Brightness() {
        CobbleWorld world = new CobbleWorld();
        Check.equal("23: an empty world", world.brightness(), 15.0);
        world.set(4, 0, 4, 6);
        Check.equal("23: one cell with 13", world.brightness(), (3071 * 15.0 + 13) / 3072);
        world.set(4, 0, 4, 1);
        Check.equal("23: STONE does not count", world.brightness(), 15.0);
        world.set(4, 1, 4, 1);
        world.set(4, 0, 4, 0);
        Check.equal("23: one cell with 14", world.brightness(), (3070 * 15.0 + 14) / 3071);
        world.send(5, true);
        Check.equal("23: BEYOND does not count", world.brightness(), 15.0);
        world.send(5, false);
        world.fill(0, 0, 0, 4, 1, 1, 2);
        world.fill(0, 11, 4, 4, 1, 1, 5);
        // 3071 cells are CLEAR: four of LEAF at the top have 13, what is below them 14.
        Check.equal("23: all that is CLEAR", world.brightness(),
                (3071 * 15.0 - 4 * 2 - 44 - 1) / 3071);
        Check.equal("23: all STONE", filledWith(1).brightness(), 0.0);
        Check.equal("23: all WATER", filledWith(6).brightness(), 0.0);
        CobbleWorld lamp = filledWith(1);
        lamp.fill(3, 3, 3, 2, 1, 1, 3);
        lamp.set(5, 3, 3, 0);
        lamp.set(6, 3, 3, 0);
        Check.equal("23: not cut", lamp.brightness(), 10.5);
        for (int chunk = 0; chunk < 16; chunk++) {
            world.send(chunk, true);
        }
        Check.equal("23: all is BEYOND", world.brightness(), 0.0);
    }

    private static CobbleWorld filledWith(int kind) {
        CobbleWorld world = new CobbleWorld();
        world.fill(0, 0, 0, 16, 12, 16, kind);
        return world;
    }

    private static void wrongInputs() {
        CobbleWorld world = new CobbleWorld();
        world.send(0, true);
        for (int[] c : OUTSIDE) {
            Check.badIndex("16: no such cell", () -> world.sky(c[0], c[1], c[2]));
            Check.badIndex("17: no such cell", () -> world.glow(c[0], c[1], c[2]));
        }
    }
}
