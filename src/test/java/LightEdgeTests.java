/** Promises 16 to 18 and 23 and the LIGHT, sentence by sentence: the boundary cases that they name. */
public final class LightEdgeTests {
    private LightEdgeTests() {
    }

    public static void main(String[] args) {
        terms3OpenCells();
        terms3NotClearHasNoSky();
        terms3FromEachSide();
        terms3OneMoreLess();
        terms3NotLessThan0();
        terms3NothingFromBeyond();
        terms3LampsAlone();
        terms3OnlyFromEachOther();
        terms3GreaterOneOfBoth();
        promise16LeastAndGreatest();
        promise16BesideBeyond();
        promise16NoSuchCell();
        promise16Beyond();
        promise16FirstNamed();
        promise17LeastAndGreatest();
        promise17BesideBeyond();
        promise17NoSuchCell();
        promise17Beyond();
        promise17FirstNamed();
        promise18FirstAndLastLight();
        promise18EachKind();
        promise18JustAsBright();
        promise18NoneAndAll();
        promise18NoneThatIsBeyond();
        promise18NoSuchLight();
        promise23WithoutAny();
        promise23LeastAndGreatest();
        promise23NotCut();
        promise23JustWhatIsClearAndHere();
        Check.end();
    }

    /** STONE, and a tunnel from x 1 to 15 at y 5 and z 8, with a LAMP in its end at x 0. */
    private static CobbleWorld tunnel() {
        CobbleWorld world = Worlds.fullOf(1);
        world.fill(1, 5, 8, 15, 1, 1, 0);
        world.set(0, 5, 8, 3);
        return world;
    }

    // ---- terms: LIGHT

    private static void terms3OpenCells() {
        Check.sentence("Terms 3 LIGHT: A cell is OPEN, if it, and all above it in its column, are AIR or GLASS.");
        int[] itself = {15, 0, 15, 0, 0, 13, 13};
        for (int kind = 0; kind <= 6; kind++) {
            for (int y : new int[] {0, 1, 5, 10, 11}) {
                CobbleWorld world = new CobbleWorld();
                world.fill(8, 0, 8, 1, 12, 1, 2);
                world.set(8, y, 8, kind);
                String at = "KIND " + kind + " at y " + y;
                Check.equal(at, world.sky(8, y, 8), itself[kind]);
                for (int cellY = 0; cellY < 12; cellY++) {
                    boolean isOpen = cellY > y || kind == 0 || kind == 2;
                    if (cellY != y) {
                        Check.equal(at + ", GLASS at y " + cellY, world.sky(8, cellY, 8), isOpen ? 15 : 14);
                    }
                }
            }
        }
    }

    private static void terms3NotClearHasNoSky() {
        Check.sentence("Terms 3 LIGHT: SKY is 15 in a cell that is OPEN; 0 in one that is not CLEAR");
        for (int kind : new int[] {1, 3, 4}) {
            CobbleWorld world = Worlds.fullOf(kind);
            Check.equal("KIND " + kind + " below the sky", world.sky(15, 11, 15), 0);
            world.set(8, 11, 8, 0);
            Check.equal("beside an OPEN cell", world.sky(7, 11, 8), 0);
            Check.equal("the OPEN cell", world.sky(8, 11, 8), 15);
        }
    }

    private static void terms3FromEachSide() {
        Check.sentence("Terms 3 LIGHT: in others it is the greatest SKY of its NEIGHBOURS that are not BEYOND, less 1");
        int[][] beside = {{7, 6, 8}, {9, 6, 8}, {8, 5, 8}, {8, 7, 8}, {8, 6, 7}, {8, 6, 9}};
        for (int side = 0; side < 6; side++) {
            int[] c = beside[side];
            CobbleWorld lamp = Worlds.fullOf(1);
            lamp.set(8, 6, 8, 0);
            lamp.set(c[0], c[1], c[2], 3);
            Check.equal("GLOW from SIDE " + side, lamp.glow(8, 6, 8), 11);
            if (side != 2 && side != 3) {
                CobbleWorld shaft = Worlds.fullOf(1);
                shaft.set(8, 6, 8, 0);
                shaft.fill(c[0], 0, c[2], 1, 12, 1, 0);
                Check.equal("SKY from SIDE " + side, shaft.sky(8, 6, 8), 14);
            }
        }
        CobbleWorld above = Worlds.fullOf(1);
        above.fill(8, 5, 8, 1, 7, 1, 0);
        above.fill(9, 3, 8, 1, 3, 1, 0);
        Check.equal("beside the shaft", above.sky(9, 5, 8), 14);
        Check.equal("SKY from SIDE 3", above.sky(9, 4, 8), 13);
        Check.equal("SKY from SIDE 3", above.sky(9, 3, 8), 12);
        CobbleWorld below = Worlds.fullOf(1);
        below.fill(8, 5, 8, 1, 7, 1, 0);
        below.fill(9, 5, 8, 2, 1, 1, 0);
        below.fill(10, 6, 8, 1, 2, 1, 0);
        Check.equal("two from the shaft", below.sky(10, 5, 8), 13);
        Check.equal("SKY from SIDE 2", below.sky(10, 6, 8), 12);
        Check.equal("SKY from SIDE 2", below.sky(10, 7, 8), 11);
    }

    private static void terms3OneMoreLess() {
        Check.sentence("Terms 3 LIGHT: and 1 more less if it is THICK");
        for (int kind : new int[] {5, 6}) {
            CobbleWorld world = tunnel();
            world.fill(1, 5, 8, 3, 1, 1, kind);
            int[] due = {12, 10, 8, 6, 5, 4, 3, 2, 1, 0};
            for (int x = 0; x < due.length; x++) {
                Check.equal("GLOW through KIND " + kind + " at x " + x, world.glow(x, 5, 8), due[x]);
            }
            world.fill(4, 5, 8, 1, 7, 1, 0);
            world.fill(5, 5, 8, 3, 1, 1, kind);
            int[] sky = {0, 9, 11, 13, 15, 13, 11, 9, 8, 7};
            for (int x = 0; x < sky.length; x++) {
                Check.equal("SKY through KIND " + kind + " at x " + x, world.sky(x, 5, 8), sky[x]);
            }
        }
    }

    private static void terms3NotLessThan0() {
        Check.sentence("Terms 3 LIGHT: but not less than 0");
        CobbleWorld world = tunnel();
        world.fill(1, 5, 8, 15, 1, 1, 5);
        int[] due = {12, 10, 8, 6, 4, 2, 0, 0, 0};
        for (int x = 0; x < due.length; x++) {
            Check.equal("GLOW in LEAF at x " + x, world.glow(x, 5, 8), due[x]);
        }
        world.fill(1, 5, 8, 1, 7, 1, 0);
        for (int x = 1; x < 16; x++) {
            Check.equal("SKY in LEAF at x " + x, world.sky(x, 5, 8), Math.max(0, 17 - 2 * x));
        }
        CobbleWorld air = tunnel();
        air.set(12, 5, 8, 6);
        Check.equal("1 in AIR", air.glow(11, 5, 8), 1);
        Check.equal("then WATER", air.glow(12, 5, 8), 0);
        Check.equal("then AIR", air.glow(13, 5, 8), 0);
        air.set(11, 5, 8, 6);
        Check.equal("2 in AIR", air.glow(10, 5, 8), 2);
        Check.equal("then WATER", air.glow(11, 5, 8), 0);
        air.set(10, 5, 8, 6);
        Check.equal("3 in AIR", air.glow(9, 5, 8), 3);
        Check.equal("then WATER", air.glow(10, 5, 8), 1);
    }

    private static void terms3NothingFromBeyond() {
        Check.sentence("Terms 3 LIGHT: of its NEIGHBOURS that are not BEYOND");
        CobbleWorld world = tunnel();
        world.fill(4, 5, 8, 1, 7, 1, 0);
        Check.equal("GLOW", world.glow(4, 5, 8), 8);
        Check.equal("SKY", world.sky(3, 5, 8), 14);
        world.send(8, true);
        Check.equal("no GLOW from a LAMP that is AWAY", world.glow(4, 5, 8), 0);
        world.send(8, false);
        world.send(9, true);
        Check.equal("no SKY from a cell that is AWAY", world.sky(3, 5, 8), 0);
        Check.equal("no GLOW through one", world.glow(8, 5, 8), 0);
        world.send(9, false);
        Check.equal("GLOW again", world.glow(8, 5, 8), 4);
        Check.equal("SKY again", world.sky(3, 5, 8), 14);
    }

    private static void terms3LampsAlone() {
        Check.sentence("Terms 3 LIGHT: GLOW is 12 in a LAMP, 0 in others that are not CLEAR");
        int[] due = {11, 0, 11, 12, 0, 10, 10};
        for (int kind = 0; kind <= 6; kind++) {
            CobbleWorld world = new CobbleWorld();
            world.set(8, 5, 8, 3);
            world.set(9, 5, 8, kind);
            Check.equal("KIND " + kind + " beside a LAMP", world.glow(9, 5, 8), due[kind]);
            Check.equal("the LAMP", world.glow(8, 5, 8), 12);
            world.set(8, 5, 8, 0);
            Check.equal("KIND " + kind + " alone", world.glow(9, 5, 8), kind == 3 ? 12 : 0);
        }
    }

    private static void terms3OnlyFromEachOther() {
        Check.sentence("Terms 3 LIGHT: (Light comes only from cells that are OPEN, and LAMPS: what has it only from each other has none.)");
        CobbleWorld world = tunnel();
        world.fill(1, 5, 8, 1, 7, 1, 0);
        Check.equal("SKY", world.sky(5, 5, 8), 11);
        Check.equal("GLOW", world.glow(5, 5, 8), 7);
        world.set(1, 6, 8, 1);
        world.set(0, 5, 8, 1);
        for (int x = 1; x < 16; x++) {
            Check.equal("no SKY is left at x " + x, world.sky(x, 5, 8), 0);
            Check.equal("no GLOW is left at x " + x, world.glow(x, 5, 8), 0);
        }
    }

    private static void terms3GreaterOneOfBoth() {
        Check.sentence("Terms 3 LIGHT: LIGHT is the greater one of both.");
        CobbleWorld world = Worlds.fullOf(1);
        world.set(8, 11, 8, 5);
        world.set(9, 11, 8, 3);
        Check.equal("GLOW 10, no SKY", world.brightness(), 10.0);
        world.set(8, 11, 8, 0);
        Check.equal("GLOW 11, SKY 15", world.brightness(), 15.0);
        world.set(9, 11, 8, 1);
        Check.equal("no GLOW, SKY 15", world.brightness(), 15.0);
        Check.equal("not below 15", world.dark(15), 0);
        CobbleWorld both = tunnel();
        both.fill(15, 5, 8, 1, 7, 1, 0);
        // At x 11 to 1 GLOW has 1 to 11, and SKY 11 to 1: at x 6 both have 6.
        for (int x = 1; x < 12; x++) {
            Check.equal("GLOW at x " + x, both.glow(x, 5, 8), 12 - x);
            Check.equal("SKY at x " + x, both.sky(x, 5, 8), x);
        }
        Check.equal("none is below 6", both.dark(6), 0);
        Check.equal("one is below 7", both.dark(7), 1);
    }

    // ---- promise 16: sky

    private static void promise16LeastAndGreatest() {
        Check.sentence("Promise 16: Returns its SKY. (0 to 15)");
        CobbleWorld open = new CobbleWorld();
        CobbleWorld full = Worlds.fullOf(1);
        for (int[] c : Worlds.CORNERS) {
            Check.equal(Wrong.told("all is AIR", c), open.sky(c[0], c[1], c[2]), 15);
            Check.equal(Wrong.told("all is STONE", c), full.sky(c[0], c[1], c[2]), 0);
        }
        CobbleWorld shaft = tunnel();
        shaft.fill(1, 5, 8, 1, 7, 1, 0);
        for (int x = 1; x < 16; x++) {
            Check.equal("so far from the shaft: " + (x - 1), shaft.sky(x, 5, 8), 16 - x);
        }
        shaft.set(2, 5, 8, 6);
        Check.equal("WATER takes one more", shaft.sky(2, 5, 8), 13);
        Check.equal("no more is left", shaft.sky(15, 5, 8), 0);
    }

    private static void promise16BesideBeyond() {
        Check.sentence("Promise 16: Throws IllegalStateException if it is BEYOND (it is not)");
        CobbleWorld world = new CobbleWorld();
        world.send(5, true);
        for (int[] c : Worlds.BESIDE_BEYOND) {
            Check.equal(Wrong.told("sky", c), world.sky(c[0], c[1], c[2]), 15);
        }
        world.send(5, false);
        for (int[] c : Worlds.BEYOND) {
            Check.equal(Wrong.told("HERE again: sky", c), world.sky(c[0], c[1], c[2]), 15);
        }
    }

    private static void promise16NoSuchCell() {
        Check.sentence("Promise 16: Throws IndexOutOfBoundsException if there is no such cell in the world");
        for (int[] c : Wrong.CELLS) {
            Refused.index(Wrong.told("sky", c), Worlds::mixed, w -> w.sky(c[0], c[1], c[2]));
        }
    }

    private static void promise16Beyond() {
        Check.sentence("Promise 16: Throws IllegalStateException if it is BEYOND");
        for (int[] c : Worlds.BEYOND) {
            Refused.state(Wrong.told("sky", c), Worlds::mixed, w -> w.sky(c[0], c[1], c[2]));
        }
        for (int[] c : Worlds.CORNERS) {
            Refused.state(Wrong.told("sky", c), Worlds::allAway, w -> w.sky(c[0], c[1], c[2]));
        }
    }

    private static void promise16FirstNamed() {
        Check.sentence("Promise 16: If several exceptions apply, the one that is named first is thrown.");
        // What is not in the world is BEYOND as well.
        for (int[] c : Wrong.CELLS) {
            Refused.index(Wrong.told("sky", c), Worlds::allAway, w -> w.sky(c[0], c[1], c[2]));
        }
    }

    // ---- promise 17: glow

    private static void promise17LeastAndGreatest() {
        Check.sentence("Promise 17: Returns its GLOW. (0 to 12)");
        CobbleWorld world = tunnel();
        Check.equal("the LAMP", world.glow(0, 5, 8), 12);
        for (int x = 1; x < 16; x++) {
            Check.equal("so far from it: " + x, world.glow(x, 5, 8), Math.max(0, 12 - x));
        }
        CobbleWorld lamps = Worlds.fullOf(3);
        CobbleWorld empty = new CobbleWorld();
        for (int[] c : Worlds.CORNERS) {
            Check.equal(Wrong.told("all are LAMPS", c), lamps.glow(c[0], c[1], c[2]), 12);
            Check.equal(Wrong.told("all is AIR", c), empty.glow(c[0], c[1], c[2]), 0);
        }
    }

    private static void promise17BesideBeyond() {
        Check.sentence("Promise 17: Throws IllegalStateException if it is BEYOND (it is not)");
        CobbleWorld world = Worlds.fullOf(3);
        world.send(5, true);
        for (int[] c : Worlds.BESIDE_BEYOND) {
            Check.equal(Wrong.told("glow", c), world.glow(c[0], c[1], c[2]), 12);
        }
        world.send(5, false);
        for (int[] c : Worlds.BEYOND) {
            Check.equal(Wrong.told("HERE again: glow", c), world.glow(c[0], c[1], c[2]), 12);
        }
    }

    private static void promise17NoSuchCell() {
        Check.sentence("Promise 17: Throws IndexOutOfBoundsException if there is no such cell in the world");
        for (int[] c : Wrong.CELLS) {
            Refused.index(Wrong.told("glow", c), Worlds::mixed, w -> w.glow(c[0], c[1], c[2]));
        }
    }

    private static void promise17Beyond() {
        Check.sentence("Promise 17: Throws IllegalStateException if it is BEYOND");
        for (int[] c : Worlds.BEYOND) {
            Refused.state(Wrong.told("glow", c), Worlds::mixed, w -> w.glow(c[0], c[1], c[2]));
        }
        for (int[] c : Worlds.CORNERS) {
            Refused.state(Wrong.told("glow", c), Worlds::allAway, w -> w.glow(c[0], c[1], c[2]));
        }
    }

    private static void promise17FirstNamed() {
        Check.sentence("Promise 17: If several exceptions apply, the one that is named first is thrown.");
        for (int[] c : Wrong.CELLS) {
            Refused.index(Wrong.told("glow", c), Worlds::allAway, w -> w.glow(c[0], c[1], c[2]));
        }
    }

    // ---- promise 18: dark

    private static void promise18FirstAndLastLight() {
        Check.sentence("Promise 18: Returns how many cells that are CLEAR have a LIGHT below it. (1 to 15)");
        CobbleWorld world = tunnel();
        // The 15 cells of the tunnel have 11 down to 1, and four of them 0.
        for (int light = 1; light <= 15; light++) {
            Check.equal("dark " + light, world.dark(light), Math.min(15, 3 + light));
        }
    }

    private static void promise18EachKind() {
        Check.sentence("Promise 18: cells that are CLEAR");
        int[] due = {1, 0, 1, 0, 0, 1, 1};
        for (int kind = 0; kind <= 6; kind++) {
            CobbleWorld world = Worlds.fullOf(1);
            world.set(0, 0, 0, kind);
            Check.equal("one of KIND " + kind, world.dark(1), due[kind]);
        }
    }

    private static void promise18JustAsBright() {
        Check.sentence("Promise 18: have a LIGHT below it");
        CobbleWorld world = Worlds.fullOf(1);
        world.set(15, 11, 15, 0);
        Check.equal("15 is not below 15", world.dark(15), 0);
        world.set(15, 11, 15, 5);
        Check.equal("LEAF below the sky takes from no cell", world.dark(1), 1);
        world.set(14, 11, 15, 0);
        Check.equal("13 is below 14", world.dark(14), 1);
        Check.equal("13 is not below 13", world.dark(13), 0);
    }

    private static void promise18NoneAndAll() {
        Check.sentence("Promise 18: Returns how many cells that are CLEAR have a LIGHT below it. (none, all)");
        for (int light = 1; light <= 15; light++) {
            Check.equal("all is bright", new CobbleWorld().dark(light), 0);
            Check.equal("none is CLEAR", Worlds.fullOf(1).dark(light), 0);
            Check.equal("all is dark", Worlds.fullOf(6).dark(light), 3072);
        }
    }

    private static void promise18NoneThatIsBeyond() {
        Check.sentence("Promise 18: cells that are CLEAR (BEYOND is not)");
        CobbleWorld world = Worlds.fullOf(6);
        for (int chunk = 0; chunk < 16; chunk++) {
            world.send(chunk, true);
            Check.equal("so many are AWAY: " + (chunk + 1), world.dark(1), 3072 - 192 * (chunk + 1));
        }
    }

    private static void promise18NoSuchLight() {
        Check.sentence("Promise 18: Throws IllegalArgumentException if light is not 1 to 15");
        for (int light : Wrong.beside(1, 15)) {
            Refused.argument("dark " + light, Worlds::mixed, w -> w.dark(light));
        }
    }

    // ---- promise 23: brightness

    private static void promise23WithoutAny() {
        Check.sentence("Promise 23: 0 without any");
        for (int kind : new int[] {1, 3, 4}) {
            Check.equal("all of KIND " + kind, Worlds.fullOf(kind).brightness(), 0.0);
        }
        Check.equal("all STONE is AWAY", Worlds.allAway().brightness(), 0.0);
        CobbleWorld world = new CobbleWorld();
        for (int chunk = 0; chunk < 16; chunk++) {
            world.send(chunk, true);
        }
        Check.equal("all AIR is AWAY", world.brightness(), 0.0);
    }

    private static void promise23LeastAndGreatest() {
        Check.sentence("Promise 23: Returns the mean LIGHT of all cells (0 to 15)");
        Check.equal("all AIR", new CobbleWorld().brightness(), 15.0);
        Check.equal("all GLASS", Worlds.fullOf(2).brightness(), 15.0);
        Check.equal("all LEAF", Worlds.fullOf(5).brightness(), 0.0);
        Check.equal("all WATER", Worlds.fullOf(6).brightness(), 0.0);
    }

    private static void promise23NotCut() {
        Check.sentence("Promise 23: not cut");
        CobbleWorld world = Worlds.fullOf(1);
        world.set(0, 0, 0, 3);
        world.fill(1, 0, 0, 2, 1, 1, 0);
        Check.equal("11 and 10", world.brightness(), 10.5);
        world.set(15, 0, 15, 0);
        world.set(2, 0, 0, 1);
        world.set(15, 3, 15, 0);
        Check.equal("11, 0 and 0", world.brightness(), 11.0 / 3.0);
    }

    private static void promise23JustWhatIsClearAndHere() {
        Check.sentence("Promise 23: of all cells that are CLEAR and not BEYOND");
        CobbleWorld world = Worlds.fullOf(1);
        world.fill(0, 0, 0, 4, 12, 4, 6);
        world.set(15, 11, 15, 0);
        Check.equal("192 with 0, one with 15", world.brightness(), 15.0 / 193.0);
        world.send(0, true);
        Check.equal("one with 15", world.brightness(), 15.0);
        world.set(14, 11, 15, 3);
        Check.equal("a LAMP is not CLEAR", world.brightness(), 15.0);
        world.send(15, true);
        Check.equal("none", world.brightness(), 0.0);
    }
}
