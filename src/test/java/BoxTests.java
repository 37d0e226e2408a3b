/** Promises 24 to 26: boxes. */
public final class BoxTests {
    private BoxTests() {
    }

    public static void main(String[] args) {
        promise24Copy();
        promise24WrongInputs();
        promise25Turn();
        promise26Paste();
        promise26LevelsAndAir();
        promise26OverItself();
        promise26WrongInputs();
        Check.end();
    }

    private static void promise24Copy() {
        CobbleWorld world = new CobbleWorld();
        Check.equal("24: only AIR", world.copy(0, 0, 0, 8, 8, 8), 0);
        world.fill(2, 2, 2, 3, 3, 3, 6);
        Check.equal("24: all of it", world.copy(0, 0, 0, 8, 8, 8), 27);
        Check.equal("24: a part", world.copy(4, 3, 1, 2, 8, 3), 4);
        Check.equal("24: at the end of the world", world.copy(8, 4, 8, 8, 8, 8), 0);
        Check.equal("24: one cell", world.copy(2, 2, 2, 1, 1, 1), 1);
        Check.equal("24: nothing is changed", world.count(6), 27);
    }

    private static void promise24WrongInputs() {
        CobbleWorld world = new CobbleWorld();
        world.set(1, 0, 1, 3);
        world.copy(1, 0, 1, 1, 1, 1);
        int[][] boxes = {{0, 0, 0, 0, 1, 1}, {0, 0, 0, 1, 0, 1}, {0, 0, 0, 1, 1, 0},
            {0, 0, 0, 9, 1, 1}, {0, 0, 0, 1, 9, 1}, {0, 0, 0, 1, 1, 9}, {-1, 0, 0, 2, 1, 1},
            {0, -1, 0, 1, 2, 1}, {0, 0, -1, 1, 1, 2}, {12, 0, 0, 5, 1, 1}, {0, 5, 0, 1, 8, 1},
            {0, 0, 15, 1, 1, 2}, {Integer.MAX_VALUE, 0, 0, 1, 1, 1}, {0, 0, 0, Integer.MIN_VALUE, 1, 1},
            {1, 0, 0, Integer.MAX_VALUE, 1, 1}, {0, Integer.MAX_VALUE, 0, 1, 8, 1},
            {3, 3, 3, 0, 1, 1}, {3, 3, 3, 1, 0, 1}, {3, 3, 3, 1, 1, 0}};
        world.send(5, true);
        for (int[] b : boxes) {
            Check.badIndex("24: no such box", () -> world.copy(b[0], b[1], b[2], b[3], b[4], b[5]));
        }
        Check.badIndex("24: the box ahead of BEYOND", () -> world.copy(4, 0, 4, 9, 1, 1));
        Check.badState("24: BEYOND", () -> world.copy(3, 0, 3, 2, 1, 2));
        world.send(2, true);
        Check.badState("24: BEYOND in x", () -> world.copy(7, 0, 3, 2, 1, 1));
        Check.badState("24: BEYOND in z", () -> world.copy(8, 0, 3, 1, 1, 2));
        Check.equal("24: nothing is changed", world.paste(2, 2, 2, true), 1);
        Check.equal("24: the CLIP is the old one", world.kind(2, 2, 2), 3);
    }

    private static void promise25Turn() {
        CobbleWorld world = new CobbleWorld();
        Check.badState("25: none", world::turn);
        Check.badIndex("25: no box", () -> world.copy(16, 0, 0, 1, 1, 1));
        Check.badState("25: still none", world::turn);
        int[] kinds = {1, 2, 3, 4, 5, 6};
        for (int i = 0; i < 6; i++) {
            world.set(i % 3, 5, i / 3, kinds[i]);
        }
        world.copy(0, 5, 0, 3, 2, 2);
        Check.equal("25: as many x as z before", world.turn(), 2);
        world.paste(8, 5, 8, true);
        // Cell (i, j, k) has come to (1 - k, j, i).
        Check.equal("25: once", row(world, 2, 3), "41 52 63");
        Check.equal("25: twice", world.turn(), 3);
        world.paste(8, 5, 8, true);
        Check.equal("25: twice", row(world, 3, 2), "654 321");
        Check.equal("25: three times", world.turn(), 2);
        world.paste(8, 5, 8, true);
        Check.equal("25: three times", row(world, 2, 3), "36 25 14");
        Check.equal("25: four times", world.turn(), 3);
        world.paste(8, 5, 8, true);
        Check.equal("25: as before", row(world, 3, 2), "123 456");
        world.copy(0, 0, 0, 1, 8, 6);
        Check.equal("25: a high one", world.turn(), 6);
        Check.badIndex("25: its height stays", () -> world.paste(0, 5, 0, true));
        Check.badIndex("25: its width", () -> world.paste(11, 0, 0, true));
        Check.equal("25: and its depth", world.paste(10, 0, 15, false), 2);
    }

    /** The KINDS at x 8, y 5, z 8 and on, z by z. */
    private static String row(CobbleWorld world, int w, int d) {
        StringBuilder told = new StringBuilder();
        for (int z = 8; z < 8 + d; z++) {
            told.append(z == 8 ? "" : " ");
            for (int x = 8; x < 8 + w; x++) {
                told.append(world.kind(x, 5, z));
            }
        }
        return told.toString();
    }

    private static void promise26Paste() {
        CobbleWorld world = new CobbleWorld();
        world.set(0, 0, 0, 1);
        world.set(1, 1, 1, 2);
        world.copy(0, 0, 0, 2, 2, 2);
        Check.equal("26: onto itself", world.paste(0, 0, 0, true), 0);
        world.fill(8, 4, 8, 4, 4, 4, 1);
        Check.equal("26: without AIR", world.paste(8, 4, 8, false), 1);
        Check.equal("26: STONE that was STONE", world.kind(8, 4, 8), 1);
        Check.equal("26: GLASS", world.kind(9, 5, 9), 2);
        Check.equal("26: AIR is not set", world.kind(9, 4, 8), 1);
        Check.equal("26: with AIR", world.paste(10, 6, 10, true), 7);
        Check.equal("26: AIR is set", world.kind(11, 6, 10), 0);
        Check.equal("26: all STONE", world.count(1), 1 + 64 - 1 - 7);
        Check.equal("26: at the end of the world", world.paste(14, 10, 14, false), 2);
    }

    private static void promise26LevelsAndAir() {
        CobbleWorld world = new CobbleWorld();
        world.set(4, 0, 4, 6);
        world.tick(2);
        Check.equal("26: five of WATER", world.copy(2, 0, 4, 5, 1, 1), 5);
        Check.equal("26: all are set", world.paste(9, 9, 9, false), 5);
        int[] due = {6, 7, 8, 7, 6};
        for (int i = 0; i < 5; i++) {
            Check.equal("26: LEVELS come along", world.level(9 + i, 9, 9), due[i]);
        }
        world.fill(9, 9, 9, 5, 1, 1, 6);
        Check.equal("26: another LEVEL counts", world.paste(9, 9, 9, false), 4);
        Check.equal("26: and is set", world.level(9, 9, 9), 6);
    }

    private static void promise26OverItself() {
        CobbleWorld world = new CobbleWorld();
        world.set(0, 0, 0, 1);
        world.set(1, 0, 0, 3);
        world.copy(0, 0, 0, 2, 1, 1);
        world.paste(1, 0, 0, true);
        Check.equal("26: the CLIP is a thing of its own", world.kind(2, 0, 0), 3);
        world.fill(0, 0, 0, 16, 1, 16, 0);
        Check.equal("26: it stays as it is", world.paste(5, 5, 5, true), 2);
        world.send(0, true);
        Check.equal("26: also if its box is AWAY", world.paste(7, 7, 7, true), 2);
    }

    private static void promise26WrongInputs() {
        CobbleWorld world = new CobbleWorld();
        Check.badState("26: none", () -> world.paste(0, 0, 0, true));
        Check.badState("26: none, ahead of all", () -> world.paste(-1, 99, 0, true));
        world.set(0, 0, 0, 1);
        world.copy(0, 0, 0, 2, 3, 4);
        world.send(5, true);
        int[][] places = {{15, 0, 0}, {0, 10, 0}, {0, 0, 13}, {-1, 0, 0}, {0, -1, 0}, {0, 0, -1},
            {Integer.MAX_VALUE, 0, 0}, {0, Integer.MAX_VALUE, 0}, {0, 0, Integer.MIN_VALUE}};
        for (int[] p : places) {
            Check.badIndex("26: not in the world", () -> world.paste(p[0], p[1], p[2], true));
        }
        Check.badIndex("26: not in the world, ahead of BEYOND", () -> world.paste(4, 11, 4, true));
        Check.badArgument("26: BEYOND", () -> world.paste(3, 0, 1, true));
        Check.badArgument("26: AIR that is not set, too", () -> world.paste(3, 5, 1, false));
        Check.equal("26: nothing is changed", world.count(1), 1);
        Check.equal("26: beside what is BEYOND", world.paste(2, 0, 0, false), 1);
        world.send(2, true);
        Check.badArgument("26: BEYOND in x", () -> world.paste(7, 0, 0, true));
        Check.equal("26: beside it in z", world.paste(9, 0, 4, false), 1);
    }
}
