import java.math.BigInteger;
import java.util.List;
import java.util.function.Supplier;

/** Promises 27 to 30, sentence by sentence: the boundary cases that they name. */
public final class WouldBeEdgeTests {
    private WouldBeEdgeTests() {
    }

    public static void main(String[] args) {
        promise27EachKindAtEachCorner();
        promise27TheSameKind();
        promise27NoneAndAll();
        promise27BesideBeyond();
        promise27NoSuchCell();
        promise27NoSuchKind();
        promise27Beyond();
        promise27FirstNamed();
        promise28SoNow();
        promise28FewestAndMost();
        promise28MoreThanSoMany();
        promise28NoLevel();
        promise28NothingIsHere();
        promise28WrongTicks();
        promise29FewestAndMost();
        promise29NoneAndAll();
        promise29WrongTicks();
        promise30WrapsAround();
        promise30StartsWith();
        nothingIsChanged();
        Check.end();
    }

    // ---- promise 27: darkWith

    private static void promise27EachKindAtEachCorner() {
        Check.sentence("Promise 27: Returns what dark() of 8 would be, if the cell was of this KIND.");
        int[][] cells = {{0, 0, 0}, {15, 11, 15}, {15, 0, 0}, {0, 11, 15}, {10, 7, 2}, {3, 2, 4}, {9, 0, 9}};
        for (int[] c : cells) {
            for (int kind = 0; kind <= 6; kind++) {
                CobbleWorld set = Worlds.mixed();
                set.set(c[0], c[1], c[2], kind);
                Check.equal(Wrong.told("darkWith", c) + kind,
                        Worlds.mixed().darkWith(c[0], c[1], c[2], kind), set.dark(8));
            }
        }
    }

    private static void promise27TheSameKind() {
        Check.sentence("Promise 27: if the cell was of this KIND (it is)");
        for (int kind = 0; kind <= 6; kind++) {
            CobbleWorld world = Worlds.mixed();
            world.fill(8, 8, 0, 4, 1, 4, kind);
            Check.equal("KIND " + kind, world.darkWith(9, 8, 2, kind), world.dark(8));
        }
    }

    private static void promise27NoneAndAll() {
        Check.sentence("Promise 27: Returns what dark() of 8 would be (0 to 3072)");
        Check.equal("none is dark", new CobbleWorld().darkWith(0, 0, 0, 1), 0);
        Check.equal("none is CLEAR", Worlds.fullOf(1).darkWith(0, 0, 0, 3), 0);
        Check.equal("the only one", Worlds.fullOf(1).darkWith(0, 0, 0, 0), 1);
        Check.equal("all", Worlds.fullOf(6).darkWith(0, 0, 0, 6), 3072);
        Check.equal("all but a STONE", Worlds.fullOf(6).darkWith(15, 11, 15, 1), 3071);
        CobbleWorld row = Worlds.fullOf(1);
        row.fill(0, 0, 0, 16, 1, 1, 0);
        // A LAMP at its end lights four cells with 8 and more: 11 down to 8.
        Check.equal("below 8", row.darkWith(0, 0, 0, 3), 11);
    }

    private static void promise27BesideBeyond() {
        Check.sentence("Promise 27: Throws IllegalStateException if it is BEYOND (it is not)");
        CobbleWorld world = Worlds.mixed();
        for (int[] c : Worlds.BESIDE_BEYOND) {
            Check.equal(Wrong.told("darkWith", c), world.darkWith(c[0], c[1], c[2], 0), world.dark(8));
        }
        world.send(5, false);
        for (int[] c : Worlds.BEYOND) {
            int kind = world.kind(c[0], c[1], c[2]);
            Check.equal(Wrong.told("HERE again", c), world.darkWith(c[0], c[1], c[2], kind), world.dark(8));
        }
    }

    private static void promise27NoSuchCell() {
        Check.sentence("Promise 27: Throws IndexOutOfBoundsException if there is no such cell in the world");
        for (int[] c : Wrong.CELLS) {
            Refused.index(Wrong.told("darkWith", c), Worlds::mixed,
                    w -> w.darkWith(c[0], c[1], c[2], 3));
        }
    }

    private static void promise27NoSuchKind() {
        Check.sentence("Promise 27: Throws IllegalArgumentException if kind is not 0 to 6");
        for (int kind : Wrong.KINDS) {
            Refused.argument("darkWith " + kind, Worlds::mixed, w -> w.darkWith(1, 9, 1, kind));
        }
    }

    private static void promise27Beyond() {
        Check.sentence("Promise 27: Throws IllegalStateException if it is BEYOND");
        for (int[] c : Worlds.BEYOND) {
            Refused.state(Wrong.told("darkWith", c), Worlds::mixed,
                    w -> w.darkWith(c[0], c[1], c[2], 3));
        }
    }

    private static void promise27FirstNamed() {
        Check.sentence("Promise 27: If several exceptions apply, the one that is named first is thrown.");
        for (int kind : Wrong.KINDS) {
            Refused.index("no cell, no KIND", Worlds::mixed, w -> w.darkWith(16, 0, 0, kind));
            Refused.index("no cell, no KIND", Worlds::mixed, w -> w.darkWith(4, -1, 4, kind));
            Refused.argument("no KIND, BEYOND", Worlds::mixed, w -> w.darkWith(4, 0, 4, kind));
        }
        // What is not in the world is BEYOND as well.
        Refused.index("no cell, BEYOND", Worlds::allAway, w -> w.darkWith(0, 12, 0, 3));
    }

    // ---- promise 28: calmIn

    private static void promise28SoNow() {
        Check.sentence("Promise 28: (0 if it is so now)");
        for (int ticks = 1; ticks <= 12; ticks++) {
            for (int kind = 0; kind <= 6; kind++) {
                Check.equal("all of KIND " + kind, Worlds.fullOf(kind).calmIn(ticks), 0);
            }
            CobbleWorld world = new CobbleWorld();
            world.set(8, 0, 8, 4);
            Check.equal("SAND at y 0", world.calmIn(ticks), 0);
        }
    }

    private static void promise28FewestAndMost() {
        Check.sentence("Promise 28: Returns behind how many ticks the next one would change no KIND and no LEVEL");
        for (int y = 1; y < 12; y++) {
            CobbleWorld world = new CobbleWorld();
            world.set(3, y, 12, 4);
            Check.equal("SAND falls from y " + y, world.calmIn(12), y);
            Check.equal("just so many", world.calmIn(y), y);
            world.tick(y);
            Check.equal("it lies", world.calmIn(1), 0);
        }
        Check.equal("twelve", shaft(1).calmIn(12), 12);
    }

    /** STONE, a shaft from y 11 to 0, and a SPRING at y 11 so far from it: 1 is right beside it. */
    private static CobbleWorld shaft(int far) {
        CobbleWorld world = Worlds.fullOf(1);
        world.fill(8, 0, 8, 1, 12, 1, 0);
        world.fill(8, 11, 8, 1 + far, 1, 1, 0);
        world.set(8 + far, 11, 8, 6);
        return world;
    }

    private static void promise28MoreThanSoMany() {
        Check.sentence("Promise 28: -1 if that is more than so many");
        for (int y = 2; y < 12; y++) {
            CobbleWorld world = new CobbleWorld();
            world.set(3, y, 12, 4);
            Check.equal("one less", world.calmIn(y - 1), -1);
            Check.equal("one at the most", world.calmIn(1), -1);
        }
        Check.equal("eleven are not enough", shaft(1).calmIn(11), -1);
        CobbleWorld thirteen = shaft(2);
        Check.equal("twelve are not enough", thirteen.calmIn(12), -1);
        thirteen.tick(1);
        Check.equal("one less is left", thirteen.calmIn(12), 12);
    }

    private static void promise28NoLevel() {
        Check.sentence("Promise 28: would change no KIND and no LEVEL");
        CobbleWorld world = Worlds.fullOf(1);
        world.fill(4, 5, 4, 3, 1, 1, 0);
        world.set(4, 5, 4, 6);
        world.tick(2);
        Check.equal("LEVEL 8, 7 and 6", world.calmIn(1), 0);
        world.set(6, 5, 4, 6);
        Check.equal("LEVEL 7 between SPRINGS becomes one", world.calmIn(1), 1);
        Check.equal("it is not one yet", world.level(5, 5, 4), 7);
    }

    private static void promise28NothingIsHere() {
        Check.sentence("Promise 28: (0 if it is so now) (BEYOND does not change)");
        CobbleWorld world = new CobbleWorld();
        world.fill(0, 11, 0, 16, 1, 16, 4);
        Check.equal("SAND falls", world.calmIn(12), 11);
        for (int chunk = 0; chunk < 16; chunk++) {
            world.send(chunk, true);
        }
        Check.equal("all is AWAY", world.calmIn(1), 0);
        world.send(15, false);
        Check.equal("one is back", world.calmIn(11), 11);
    }

    private static void promise28WrongTicks() {
        Check.sentence("Promise 28: Throws IllegalArgumentException if ticks is not 1 to 12");
        for (int ticks : Wrong.TICKS) {
            Refused.argument("calmIn " + ticks, Worlds::mixed, w -> w.calmIn(ticks));
            Refused.argument("at rest: calmIn " + ticks, CobbleWorld::new, w -> w.calmIn(ticks));
        }
    }

    // ---- promise 29: waterIn

    private static void promise29FewestAndMost() {
        Check.sentence("Promise 29: Returns how many cells would be WATER behind them. (1 to 12 ticks)");
        for (int ticks = 1; ticks <= 12; ticks++) {
            CobbleWorld ticked = Worlds.mixed();
            Check.equal("behind " + ticks, Worlds.mixed().waterIn(ticks), ticked.tick(ticks));
        }
        CobbleWorld world = new CobbleWorld();
        world.set(0, 11, 0, 6);
        for (int ticks = 1; ticks <= 11; ticks++) {
            Check.equal("it falls to y " + (11 - ticks), world.waterIn(ticks), ticks + 1);
        }
        Check.equal("at the ground it has two NEIGHBOURS", world.waterIn(12), 14);
    }

    private static void promise29NoneAndAll() {
        Check.sentence("Promise 29: Returns how many cells would be WATER behind them. (0 to 3072)");
        for (int ticks : new int[] {1, 12}) {
            Check.equal("all AIR", new CobbleWorld().waterIn(ticks), 0);
            Check.equal("all WATER", Worlds.fullOf(6).waterIn(ticks), 3072);
            Check.equal("all is AWAY", Worlds.allAway().waterIn(ticks), 0);
            CobbleWorld world = Worlds.fullOf(6);
            world.send(0, true);
            Check.equal("CHUNK 0 is AWAY", world.waterIn(ticks), 2880);
        }
    }

    private static void promise29WrongTicks() {
        Check.sentence("Promise 29: Throws IllegalArgumentException if ticks is not 1 to 12");
        for (int ticks : Wrong.TICKS) {
            Refused.argument("waterIn " + ticks, Worlds::mixed, w -> w.waterIn(ticks));
        }
    }

    // ---- promise 30: digest

    private static void promise30WrapsAround() {
        Check.sentence("Promise 30: d becomes d * 31 + v, which wraps around as a 64-bit integer");
        List<Supplier<CobbleWorld>> worlds = List.of(CobbleWorld::new, Worlds::mixed, Worlds::allAway,
                Worlds::manyRuns, () -> Worlds.fullOf(3));
        for (Supplier<CobbleWorld> made : worlds) {
            BigInteger whole = Checksum.of(made);
            Check.equal("it does not fit", whole.bitLength() > 64 ? 1 : 0, 1);
            Check.equal("digest()", made.get().digest(), whole.longValue());
        }
    }

    private static void promise30StartsWith() {
        Check.sentence("Promise 30: A number d starts with 58054");
        CobbleWorld ticked = new CobbleWorld();
        int numbers = Checksum.numbers(CobbleWorld::new).size();
        ticked.tick(12);
        // ticks() is the first one: so it weighs 31 to the power of how many are behind it.
        long weight = BigInteger.valueOf(31).pow(numbers - 1).longValue();
        Check.equal("12 ticks more", ticked.digest() - new CobbleWorld().digest(), 12 * weight);
        CobbleWorld none = Worlds.allAway();
        for (int chunk = 0; chunk < 16; chunk++) {
            none.send(chunk, false);
        }
        none.fill(0, 0, 0, 16, 12, 16, 0);
        Check.equal("the same in all, made otherwise", none.digest(), new CobbleWorld().digest());
    }

    // ---- all four

    private static void nothingIsChanged() {
        Check.sentence("Terms: ---- what would be (nothing is changed)");
        CobbleWorld world = Worlds.mixed();
        String before = Sight.of(world);
        for (int kind = 0; kind <= 6; kind++) {
            world.darkWith(1, 9, 1, kind);
            Check.equal("behind darkWith()", Sight.of(world), before);
        }
        world.calmIn(12);
        Check.equal("behind calmIn()", Sight.of(world), before);
        world.waterIn(12);
        Check.equal("behind waterIn()", Sight.of(world), before);
        world.digest();
        Check.equal("behind digest()", Sight.of(world), before);
        Check.equal("the CLIP", Sight.ofClip(world), Sight.ofClip(Worlds.mixed()));
    }
}
