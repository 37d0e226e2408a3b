/** Promises 8 to 15: what is where. */
public final class WhereTests {
    private static final int[][] OUTSIDE = {{-1, 0, 0}, {16, 0, 0}, {0, -1, 0}, {0, 12, 0},
        {0, 0, -1}, {0, 0, 16}, {Integer.MIN_VALUE, 0, 0}, {0, Integer.MAX_VALUE, 0}};

    private WhereTests() {
    }

    public static void main(String[] args) {
        promise8Kind();
        promise9Level();
        promise10Top();
        promise11Count();
        promise12Look();
        promise12WrongInputs();
        promise13Away();
        promise14Runs();
        promise15Run();
        promise15WrongInputs();
        Check.end();
    }

    private static void promise8Kind() {
        CobbleWorld world = new CobbleWorld();
        world.set(15, 11, 0, 5);
        Check.equal("8: LEAF", world.kind(15, 11, 0), 5);
        Check.equal("8: AIR", world.kind(0, 11, 15), 0);
        world.send(3, true);
        Check.equal("8: BEYOND", world.kind(15, 11, 0), -1);
        Check.equal("8: AIR that is BEYOND", world.kind(12, 0, 3), -1);
        Check.equal("8: beside it", world.kind(11, 0, 3), 0);
        Check.equal("8: beside it", world.kind(12, 0, 4), 0);
        for (int[] c : OUTSIDE) {
            Check.badIndex("8: no such cell", () -> world.kind(c[0], c[1], c[2]));
        }
    }

    private static void promise9Level() {
        CobbleWorld world = new CobbleWorld();
        world.set(4, 0, 4, 6);
        world.set(9, 0, 9, 5);
        world.tick(1);
        Check.equal("9: SPRING", world.level(4, 0, 4), 8);
        Check.equal("9: beside it", world.level(5, 0, 4), 7);
        Check.equal("9: LEAF", world.level(9, 0, 9), 0);
        Check.equal("9: AIR", world.level(12, 0, 4), 0);
        world.send(5, true);
        Check.equal("9: BEYOND", world.level(4, 0, 4), 0);
        for (int[] c : OUTSIDE) {
            Check.badIndex("9: no such cell", () -> world.level(c[0], c[1], c[2]));
        }
    }

    private static void promise10Top() {
        CobbleWorld world = new CobbleWorld();
        Check.equal("10: none", world.top(3, 9), -1);
        world.set(3, 0, 9, 2);
        Check.equal("10: at the ground", world.top(3, 9), 0);
        world.set(3, 11, 9, 6);
        Check.equal("10: the greatest", world.top(3, 9), 11);
        Check.equal("10: another column", world.top(9, 3), -1);
        world.send(8, true);
        Check.equal("10: BEYOND", world.top(3, 9), -1);
        int[][] outside = {{-1, 0}, {16, 0}, {0, -1}, {0, 16}, {Integer.MAX_VALUE, 0}};
        for (int[] c : outside) {
            Check.badIndex("10: no such column", () -> world.top(c[0], c[1]));
        }
    }

    private static void promise11Count() {
        CobbleWorld world = new CobbleWorld();
        for (int kind = 1; kind <= 6; kind++) {
            world.fill(0, kind, 0, kind, 1, 1, kind);
        }
        for (int kind = 1; kind <= 6; kind++) {
            Check.equal("11: count(" + kind + ")", world.count(kind), kind);
        }
        Check.equal("11: count(0)", world.count(0), 3072 - 21);
        world.send(0, true);
        Check.equal("11: none of it is BEYOND", world.count(4), 0);
        Check.equal("11: one is not", world.count(5), 1);
        Check.equal("11: AIR that is BEYOND", world.count(0), 3072 - 192 - 3);
        for (int kind : new int[] {-1, 7, Integer.MIN_VALUE, Integer.MAX_VALUE}) {
            Check.badArgument("11: no such KIND", () -> world.count(kind));
        }
    }

    private static void promise12Look() {
        CobbleWorld world = new CobbleWorld();
        int[][] seen = {{2, 5, 8}, {14, 5, 8}, {8, 1, 8}, {8, 11, 8}, {8, 5, 7}, {8, 5, 15}};
        int[] far = {6, 6, 4, 6, 1, 7};
        for (int side = 0; side < 6; side++) {
            Check.equal("12: nothing is seen", world.look(8, 5, 8, side), 0);
        }
        for (int side = 0; side < 6; side++) {
            world.set(seen[side][0], seen[side][1], seen[side][2], side + 1);
            Check.equal("12: to SIDE " + side, world.look(8, 5, 8, side), far[side]);
        }
        world.set(8, 5, 8, 1);
        Check.equal("12: the cell itself is not looked at", world.look(8, 5, 8, 0), 6);
        Check.equal("12: the first one", world.look(15, 5, 8, 0), 1);
        CobbleWorld empty = new CobbleWorld();
        empty.set(0, 0, 0, 2);
        Check.equal("12: through the whole world", empty.look(15, 0, 0, 0), 15);
        empty.send(1, true);
        Check.equal("12: BEYOND ahead of it", empty.look(15, 0, 0, 0), 0);
        Check.equal("12: from a cell that is BEYOND", empty.look(4, 0, 0, 0), 4);
        Check.equal("12: within BEYOND", empty.look(5, 0, 0, 0), 0);
        empty.set(8, 3, 0, 3);
        Check.equal("12: ahead of BEYOND", empty.look(10, 3, 0, 0), 2);
        empty.send(2, true);
        Check.equal("12: a cell that is BEYOND is not seen", empty.look(12, 3, 0, 0), 0);
    }

    private static void promise12WrongInputs() {
        CobbleWorld world = new CobbleWorld();
        for (int[] c : OUTSIDE) {
            Check.badIndex("12: no such cell", () -> world.look(c[0], c[1], c[2], 0));
            Check.badIndex("12: cell ahead of side", () -> world.look(c[0], c[1], c[2], 6));
        }
        for (int side : new int[] {-1, 6, Integer.MIN_VALUE, Integer.MAX_VALUE}) {
            Check.badArgument("12: no such SIDE", () -> world.look(0, 0, 0, side));
        }
    }

    private static void promise13Away() {
        CobbleWorld world = new CobbleWorld();
        int set = 0;
        for (int chunk = 15; chunk >= 0; chunk -= 3) {
            world.send(chunk, true);
            set += 1 << chunk;
            Check.equal("13: away()", world.away(), set);
        }
        world.send(9, false);
        Check.equal("13: one is back", world.away(), set - 512);
    }

    private static void promise14Runs() {
        CobbleWorld world = new CobbleWorld();
        Check.equal("14: all AIR", world.runs(6), 1);
        world.fill(8, 0, 4, 4, 1, 4, 1);
        Check.equal("14: a floor", world.runs(6), 2);
        world.set(8, 0, 4, 2);
        Check.equal("14: its first cell", world.runs(6), 3);
        world.set(11, 11, 7, 2);
        Check.equal("14: the last cell", world.runs(6), 4);
        Check.equal("14: no other CHUNK", world.runs(5) + world.runs(9), 2);
        world.send(6, true);
        Check.equal("14: AWAY", world.runs(6), 4);
        for (int x = 0; x < 4; x++) {
            for (int y = 0; y < 12; y++) {
                for (int z = 0; z < 4; z++) {
                    world.set(x, y, z, 1 + x % 2);
                }
            }
        }
        Check.equal("14: as many as there can be", world.runs(0), 192);
        Check.equal("14: they go AWAY", world.send(0, true), 192);
        for (int chunk : new int[] {-1, 16, Integer.MIN_VALUE, Integer.MAX_VALUE}) {
            Check.badIndex("14: no such CHUNK", () -> world.runs(chunk));
        }
    }

    private static void run(CobbleWorld world, int chunk, int run, String due) {
        String got = world.run(chunk, run, 0) + " " + world.run(chunk, run, 1) + " "
                + world.run(chunk, run, 2);
        Check.equal("15: RUN " + run, got, due);
    }

    private static void promise15Run() {
        CobbleWorld world = new CobbleWorld();
        world.set(5, 0, 9, 6);
        world.fill(4, 0, 10, 4, 1, 2, 4);
        world.set(7, 1, 8, 3);
        world.tick(1);
        // The row of z 8 is AIR but for LEVEL 7 at x 5; that of z 9 has 7, 8, 7 and AIR.
        for (int i = 0; i < 2; i++) {
            run(world, 9, 0, "0 0 1");
            run(world, 9, 1, "6 7 1");
            run(world, 9, 2, "0 0 2");
            run(world, 9, 3, "6 7 1");
            run(world, 9, 4, "6 8 1");
            run(world, 9, 5, "6 7 1");
            run(world, 9, 6, "0 0 1");
            run(world, 9, 7, "4 0 8");
            run(world, 9, 8, "0 0 3");
            run(world, 9, 9, "3 0 1");
            run(world, 9, 10, "0 0 172");
            Check.equal("15: eleven", world.send(9, true), 11);
        }
        run(world, 0, 0, "0 0 192");
    }

    private static void promise15WrongInputs() {
        CobbleWorld world = new CobbleWorld();
        world.set(0, 0, 0, 1);
        world.send(0, true);
        for (int chunk : new int[] {-1, 16, Integer.MAX_VALUE}) {
            Check.badIndex("15: no such CHUNK", () -> world.run(chunk, 0, 3));
        }
        for (int run : new int[] {-1, 2, 192, Integer.MIN_VALUE, Integer.MAX_VALUE}) {
            Check.badIndex("15: no such RUN", () -> world.run(0, run, 0));
            Check.badIndex("15: RUN ahead of what", () -> world.run(0, run, 3));
        }
        for (int what : new int[] {-1, 3, Integer.MAX_VALUE}) {
            Check.badArgument("15: no such number", () -> world.run(0, 1, what));
        }
    }
}
