import java.util.function.Supplier;

/** Promises 27 to 30: what would be. */
public final class WouldBeTests {
    private WouldBeTests() {
    }

    public static void main(String[] args) {
        promise27DarkWith();
        promise27WrongInputs();
        promise28CalmIn();
        promise28AtTheMost();
        promise29WaterIn();
        promise28And29WrongInputs();
        promise30Digest();
        nothingIsChanged();
        Check.end();
    }

    private static void promise27DarkWith() {
        CobbleWorld world = new CobbleWorld();
        world.fill(0, 11, 0, 16, 1, 16, 1);
        world.fill(0, 0, 0, 16, 10, 16, 1);
        // A flat room without light; a LAMP in it lights 4 cells with 11, .. and 16 with 8.
        Check.equal("27: as it is", world.darkWith(8, 10, 8, 0), 256);
        Check.equal("27: STONE is not CLEAR", world.darkWith(8, 10, 8, 1), 255);
        Check.equal("27: a LAMP", world.darkWith(8, 10, 8, 3), 255 - 4 - 8 - 12 - 16);
        Check.equal("27: AIR in the roof", world.darkWith(8, 11, 8, 0), 256 - 113);
        Check.equal("27: GLASS in the roof", world.darkWith(8, 11, 8, 2), 256 - 113);
        Check.equal("27: LEAF in the roof", world.darkWith(8, 11, 8, 5), 257);
        Check.equal("27: nothing is changed", world.dark(8), 256);
        Check.equal("27: no KIND either", world.kind(8, 11, 8), 1);
        world.set(8, 11, 8, 0);
        Check.equal("27: WATER", world.darkWith(8, 11, 8, 6), 257);
        Check.equal("27: the cell above is OPEN", world.darkWith(8, 10, 8, 1), 255);
        // Nineteen of the cells up to four from the LAMP are more than seven from the hole.
        Check.equal("27: x and z are not the same", world.darkWith(1, 10, 8, 3), 256 - 113 - 19);
        world.send(0, true);
        Check.equal("27: BEYOND does not count", world.darkWith(8, 11, 8, 1), 240);
    }

    private static void promise27WrongInputs() {
        CobbleWorld world = new CobbleWorld();
        world.send(0, true);
        int[][] outside = {{-1, 0, 0}, {16, 0, 0}, {0, -1, 0}, {0, 12, 0}, {0, 0, -1}, {0, 0, 16}};
        for (int[] c : outside) {
            Check.badIndex("27: no such cell", () -> world.darkWith(c[0], c[1], c[2], 0));
            Check.badIndex("27: cell ahead of kind", () -> world.darkWith(c[0], c[1], c[2], 7));
        }
        for (int kind : new int[] {-1, 7, Integer.MIN_VALUE, Integer.MAX_VALUE}) {
            Check.badArgument("27: no such KIND", () -> world.darkWith(4, 0, 4, kind));
            Check.badArgument("27: KIND ahead of BEYOND", () -> world.darkWith(0, 0, 0, kind));
        }
        Check.badState("27: BEYOND", () -> world.darkWith(0, 0, 0, 0));
        world.send(1, true);
        Check.badState("27: BEYOND in x", () -> world.darkWith(5, 0, 0, 0));
        Check.equal("27: beside it", world.darkWith(0, 0, 5, 0), 0);
        world.send(0, false);
        Check.badState("27: BEYOND in x alone", () -> world.darkWith(5, 0, 0, 0));
    }

    private static void promise28CalmIn() {
        CobbleWorld world = new CobbleWorld();
        Check.equal("28: calm", world.calmIn(1), 0);
        world.set(8, 5, 8, 4);
        Check.equal("28: SAND falls five", world.calmIn(5), 5);
        Check.equal("28: more would do", world.calmIn(12), 5);
        Check.equal("28: four are not enough", world.calmIn(4), -1);
        world.tick(2);
        Check.equal("28: three are left", world.calmIn(3), 3);
        world.tick(3);
        Check.equal("28: it lies", world.calmIn(1), 0);
        world.set(2, 0, 2, 6);
        Check.equal("28: WATER flows for seven", world.calmIn(7), 7);
        Check.equal("28: six are not enough", world.calmIn(6), -1);
        world.send(0, true);
        world.send(1, true);
        world.send(4, true);
        world.send(5, true);
        Check.equal("28: what is AWAY is calm", world.calmIn(1), 0);
        CobbleWorld levels = new CobbleWorld();
        levels.fill(0, 0, 0, 16, 12, 16, 1);
        levels.fill(4, 5, 4, 3, 1, 1, 0);
        levels.set(4, 5, 4, 6);
        levels.tick(2);
        levels.set(6, 5, 4, 6);
        Check.equal("28: a change of LEVEL is one", levels.calmIn(1), 1);
    }

    private static void promise28AtTheMost() {
        CobbleWorld world = new CobbleWorld();
        world.fill(0, 0, 0, 16, 12, 16, 1);
        world.fill(8, 0, 8, 1, 12, 1, 0);
        world.fill(9, 11, 8, 2, 1, 1, 0);
        world.set(10, 11, 8, 6);
        // One tick to x 9, one to x 8, and eleven down to the ground.
        Check.equal("28: thirteen are too many", world.calmIn(12), -1);
        world.tick(1);
        Check.equal("28: twelve", world.calmIn(12), 12);
    }

    private static void promise29WaterIn() {
        CobbleWorld world = new CobbleWorld();
        Check.equal("29: none", world.waterIn(12), 0);
        world.set(8, 0, 8, 6);
        Check.equal("29: behind one", world.waterIn(1), 5);
        Check.equal("29: behind two", world.waterIn(2), 13);
        Check.equal("29: behind seven", world.waterIn(7), 113);
        Check.equal("29: behind twelve", world.waterIn(12), 113);
        Check.equal("29: nothing is changed", world.count(6), 1);
        Check.equal("29: as tick() has it", world.tick(3), 25);
        world.set(1, 3, 1, 6);
        world.send(0, true);
        Check.equal("29: BEYOND does not count", world.waterIn(1), 41);
    }

    private static void promise28And29WrongInputs() {
        CobbleWorld world = new CobbleWorld();
        for (int ticks : new int[] {0, 13, -1, Integer.MIN_VALUE, Integer.MAX_VALUE}) {
            Check.badArgument("28: calmIn(" + ticks + ")", () -> world.calmIn(ticks));
            Check.badArgument("29: waterIn(" + ticks + ")", () -> world.waterIn(ticks));
        }
    }

    private static void promise30Digest() {
        holds("a new world", CobbleWorld::new);
        holds("a landscape", WouldBeTests::landscape);
        holds("WATER that flows", WouldBeTests::flowing);
        CobbleWorld world = landscape();
        Check.equal("30: again", world.digest(), world.digest());
    }

    private static void holds(String world, Supplier<CobbleWorld> made) {
        Check.equal("30: " + world, made.get().digest(), Checksum.of(made).longValue());
    }

    private static CobbleWorld landscape() {
        CobbleWorld world = new CobbleWorld();
        world.landscape(123);
        world.set(8, 9, 8, 6);
        world.set(3, 1, 12, 3);
        world.tick(5);
        world.send(6, true);
        world.send(9, true);
        return world;
    }

    private static CobbleWorld flowing() {
        CobbleWorld world = new CobbleWorld();
        world.set(8, 0, 8, 6);
        return world;
    }

    private static void nothingIsChanged() {
        CobbleWorld world = new CobbleWorld();
        world.landscape(5);
        world.set(5, 9, 5, 6);
        world.tick(2);
        world.copy(1, 1, 1, 2, 1, 3);
        long before = world.digest();
        double bright = world.brightness();
        world.darkWith(5, 5, 5, 3);
        world.calmIn(12);
        world.waterIn(12);
        Check.equal("30: the digest is as before", world.digest(), before);
        Check.equal("30: the light is as before", world.brightness(), bright);
        Check.equal("30: the CLIP is as before", world.turn(), 3);
    }
}
