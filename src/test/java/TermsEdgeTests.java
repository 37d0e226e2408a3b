/** The Terms 1, 2 and 5, sentence by sentence: the boundary cases that they name. */
public final class TermsEdgeTests {
    /** The SIDES 0, 1, 4 and 5 of a cell, as steps in x and z. */
    private static final int[][] LEVEL_STEPS = {{-1, 0}, {1, 0}, {0, -1}, {0, 1}};

    private TermsEdgeTests() {
    }

    public static void main(String[] args) {
        lastOf512Calls();
        terms1FirstAndLastCells();
        terms1Upwards();
        terms1LeastAndGreatestLevel();
        terms1Firm();
        terms1Clear();
        terms1Thick();
        terms1Sides();
        terms1LevelWithIt();
        terms2WhichChunk();
        terms2NoKindBeyond();
        terms2NotClearBeyond();
        terms2RunsGoOnOverRows();
        terms2RunsOfTheSameLevel();
        terms2ComesBackJustSo();
        terms2OtherChunksGoOn();
        terms5FromY1Upwards();
        terms5AsItsTurnComes();
        terms5WhatSandFallsInto();
        terms5TheWaterIsGone();
        terms5BehindTheSand();
        terms5AllAtOnce();
        terms5TwoOrMoreSprings();
        terms5JustSprings();
        terms5BelowASpringToBe();
        terms5BelowWater();
        terms5SpringGoesAheadOfBelowWater();
        terms5GreatestLevel();
        terms5ItsOwnLevelDoesNotCount();
        terms5BelowTheOneBeside();
        terms5NoneIsAir();
        terms5SpringsStay();
        terms5Beyond();
        Check.end();
    }

    private static void lastOf512Calls() {
        Check.sentence("What it is: An object is used for at most 512 calls after it has been made");
        CobbleWorld world = new CobbleWorld();
        for (int call = 1; call < 512; call++) {
            Check.equal("call " + call, world.set(call % 16, call / 16 % 12, call / 192, 1), 0);
        }
        Check.equal("call 512", world.count(1), 511);
        CobbleWorld ticked = new CobbleWorld();
        for (int call = 1; call < 512; call++) {
            ticked.tick(12);
        }
        Check.equal("call 512", ticked.ticks(), 511 * 12);
    }

    // ---- 1 CELLS

    private static void terms1FirstAndLastCells() {
        Check.sentence("Terms 1 CELLS: They have x and z, 0 to 15, and y, 0 to 11");
        for (int place = 0; place < 16; place++) {
            int p = place;
            CobbleWorld world = new CobbleWorld();
            world.set(p, 0, 0, 1);
            world.set(0, 0, p, 1);
            Check.equal("x " + p, world.kind(p, 0, 0), 1);
            Check.equal("z " + p, world.kind(0, 0, p), 1);
            Check.equal("just these", world.count(1), p == 0 ? 1 : 2);
            if (p < 12) {
                world.set(0, p, 0, 2);
                Check.equal("y " + p, world.kind(0, p, 0), 2);
            } else {
                Check.badIndex("y " + p, () -> world.set(0, p, 0, 2));
            }
        }
        for (int place : Wrong.beside(0, 15)) {
            Check.badIndex("x " + place, () -> new CobbleWorld().kind(place, 0, 0));
            Check.badIndex("y " + place, () -> new CobbleWorld().kind(0, place, 0));
            Check.badIndex("z " + place, () -> new CobbleWorld().kind(0, 0, place));
        }
    }

    private static void terms1Upwards() {
        Check.sentence("Terms 1 CELLS: and y, 0 to 11 (upwards)");
        CobbleWorld world = new CobbleWorld();
        world.set(8, 11, 8, 1);
        Check.equal("the top", world.top(8, 8), 11);
        Check.equal("it takes the sky from what is below", world.sky(8, 0, 8), 14);
        world.set(8, 11, 8, 4);
        world.tick(1);
        Check.equal("SAND falls", world.kind(8, 10, 8), 4);
    }

    private static void terms1LeastAndGreatestLevel() {
        Check.sentence("Terms 1 CELLS: which has a LEVEL, 1 to 8; with 8 it is a SPRING");
        CobbleWorld world = new CobbleWorld();
        world.set(3, 0, 3, 6);
        world.tick(12);
        Check.equal("8", world.level(3, 0, 3), 8);
        Check.equal("1", world.level(10, 0, 3), 1);
        Check.equal("1 is WATER", world.kind(10, 0, 3), 6);
        Check.equal("behind it is AIR", world.kind(11, 0, 3), 0);
        world.fill(0, 0, 0, 16, 1, 3, 0);
        world.fill(0, 0, 4, 16, 1, 12, 0);
        world.fill(4, 0, 3, 12, 1, 1, 0);
        world.fill(0, 0, 3, 3, 1, 1, 0);
        Check.equal("a SPRING alone flows again", world.tick(1), 5);
    }

    private static void terms1Firm() {
        Check.sentence("Terms 1 CELLS: FIRM are the KINDS 1 to 5");
        for (int kind = 0; kind <= 6; kind++) {
            CobbleWorld world = new CobbleWorld();
            world.set(8, 4, 8, 1);
            world.set(8, 5, 8, kind);
            world.set(8, 6, 8, 6);
            world.tick(1);
            // A SPRING bears WATER as well, though it is not FIRM.
            Check.equal("beside WATER on KIND " + kind, world.level(9, 6, 8), kind == 0 ? 0 : 7);
        }
        CobbleWorld flowing = new CobbleWorld();
        flowing.set(8, 4, 8, 1);
        flowing.set(8, 6, 8, 6);
        flowing.tick(3);
        Check.equal("WATER of LEVEL 7 is below", flowing.level(8, 5, 8), 7);
        Check.equal("it is not FIRM", flowing.level(9, 6, 8), 0);
    }

    private static void terms1Clear() {
        Check.sentence("Terms 1 CELLS: CLEAR are AIR, GLASS, LEAF and WATER");
        boolean[] isClear = {true, false, true, false, false, true, true};
        for (int kind = 0; kind <= 6; kind++) {
            CobbleWorld world = Worlds.fullOf(1);
            world.set(8, 5, 8, kind);
            Check.equal("KIND " + kind + " is dark", world.dark(1), isClear[kind] ? 1 : 0);
            world.set(7, 5, 8, 3);
            int light = kind == 3 ? 12 : kind >= 5 ? 10 : isClear[kind] ? 11 : 0;
            Check.equal("KIND " + kind + " beside a LAMP", world.glow(8, 5, 8), light);
            Check.equal("a FACE to it", world.faces(9, 1) - Worlds.fullOf(1).faces(9, 1),
                    isClear[kind] ? 1 : 0);
        }
    }

    private static void terms1Thick() {
        Check.sentence("Terms 1 CELLS: THICK are LEAF and WATER");
        int[] due = {11, 0, 11, 12, 0, 10, 10};
        for (int kind = 0; kind <= 6; kind++) {
            CobbleWorld world = Worlds.fullOf(1);
            world.set(0, 0, 0, 3);
            world.set(1, 0, 0, kind);
            world.set(2, 0, 0, 0);
            Check.equal("in KIND " + kind, world.glow(1, 0, 0), due[kind]);
            Check.equal("behind KIND " + kind, world.glow(2, 0, 0), Math.max(0, due[kind] - 1));
        }
    }

    private static void terms1Sides() {
        Check.sentence("Terms 1 CELLS: The SIDES of a cell are 0 the one with x less by 1, 1 with x more by 1, 2 and 3 likewise with y, 4 and 5 with z");
        int[][] beside = {{8, 5, 10}, {10, 5, 10}, {9, 4, 10}, {9, 6, 10}, {9, 5, 9}, {9, 5, 11}};
        int[][] face = {{9, 10, 5}, {9, 10, 5}, {5, 9, 10}, {5, 9, 10}, {10, 9, 5}, {10, 9, 5}};
        for (int side = 0; side < 6; side++) {
            CobbleWorld world = Worlds.fullOf(1);
            world.set(beside[side][0], beside[side][1], beside[side][2], 0);
            for (int to = 0; to < 6; to++) {
                Check.equal("AIR at SIDE " + side + ", look to " + to, world.look(9, 5, 10, to),
                        to == side ? 2 : 1);
            }
            // To the SIDE 3, the 16 cells of y 11 have FACES as well.
            Check.equal("FACES to SIDE " + side, world.faces(10, side), side == 3 ? 17 : 1);
            for (int i = 0; i < 3; i++) {
                Check.equal("where the FACE is", world.quad(10, side, 0, 1 + i), face[side][i]);
            }
        }
    }

    private static void terms1LevelWithIt() {
        Check.sentence("Terms 1 CELLS: those of the SIDES 0, 1, 4 and 5 are LEVEL with it");
        CobbleWorld above = new CobbleWorld();
        above.set(8, 4, 8, 1);
        above.set(8, 6, 8, 6);
        above.set(7, 4, 8, 1);
        above.set(7, 5, 8, 6);
        above.tick(1);
        Check.equal("one LEVEL with it, one above: no SPRING", above.level(8, 5, 8), 7);
        CobbleWorld below = new CobbleWorld();
        below.set(8, 0, 8, 6);
        below.set(7, 0, 8, 1);
        below.set(7, 1, 8, 6);
        below.tick(1);
        Check.equal("one LEVEL with it, one below: no SPRING", below.level(8, 1, 8), 7);
        CobbleWorld edge = new CobbleWorld();
        edge.set(7, 0, 7, 6);
        edge.set(9, 0, 9, 6);
        edge.tick(1);
        Check.equal("one across an edge does not count", edge.kind(8, 0, 8), 0);
    }

    // ---- 2 CHUNKS

    private static void terms2WhichChunk() {
        Check.sentence("Terms 2 CHUNKS: a cell is in the CHUNK z / 4 * 4 + x / 4 (each / cut)");
        for (int chunk = 0; chunk < 16; chunk++) {
            CobbleWorld world = new CobbleWorld();
            world.send(chunk, true);
            for (int column = 0; column < 256; column++) {
                int x = column % 16;
                int z = column / 16;
                boolean isIn = x >= chunk % 4 * 4 && x <= chunk % 4 * 4 + 3
                        && z >= chunk / 4 * 4 && z <= chunk / 4 * 4 + 3;
                Check.equal(Wrong.told("of CHUNK", chunk, x, z), world.kind(x, column % 12, z),
                        isIn ? -1 : 0);
            }
        }
    }

    private static void terms2NoKindBeyond() {
        Check.sentence("Terms 2 CHUNKS: they are neither FIRM, nor CLEAR, nor of any KIND");
        for (int kind = 0; kind <= 6; kind++) {
            CobbleWorld world = Worlds.fullOf(kind);
            world.send(5, true);
            int all = 0;
            for (int any = 0; any <= 6; any++) {
                all += world.count(any);
            }
            Check.equal("KIND " + kind, all, 3072 - 192);
            Check.equal("kind()", world.kind(4, 0, 4), -1);
        }
    }

    private static void terms2NotClearBeyond() {
        Check.sentence("Terms 2 CHUNKS: Cells in CHUNKS that are AWAY, and such as are not in the world, are BEYOND: they are neither FIRM, nor CLEAR");
        CobbleWorld world = Worlds.fullOf(1);
        Check.equal("no FACES to what is not in the world", world.faces(0, 0) + world.faces(0, 4)
                + world.faces(0, 2), 0);
        world.fill(4, 0, 4, 4, 12, 4, 0);
        Check.equal("FACES to AIR", world.faces(4, 1), 48);
        Check.equal("dark cells", world.dark(15), 0);
        world.set(4, 11, 4, 1);
        Check.equal("dark cells", world.dark(15), 11);
        world.send(5, true);
        Check.equal("no FACES to what is AWAY", world.faces(4, 1), 0);
        Check.equal("no dark cells", world.dark(15), 0);
    }

    private static void terms2RunsGoOnOverRows() {
        Check.sentence("Terms 2 CHUNKS: its 192 cells one behind the other, y by y, in each z by z, in each x by x");
        int[][] pairs = {{0, 0, 0, 1, 0, 0}, {3, 0, 0, 0, 0, 1}, {3, 0, 3, 0, 1, 0}, {3, 10, 3, 0, 11, 0}};
        int[] ahead = {0, 3, 15, 175};
        for (int pair = 0; pair < pairs.length; pair++) {
            int[] p = pairs[pair];
            CobbleWorld world = new CobbleWorld();
            world.set(8 + p[0], p[1], 4 + p[2], 2);
            world.set(8 + p[3], p[4], 4 + p[5], 2);
            for (int i = 0; i < 2; i++) {
                int first = ahead[pair] == 0 ? 0 : 1;
                Check.equal(Wrong.told("runs", p), world.runs(6), first + 2);
                Check.equal("both are in one", world.run(6, first, 2), 2);
                Check.equal("it is GLASS", world.run(6, first, 0), 2);
                Check.equal("what is ahead", world.run(6, 0, 2), first == 0 ? 2 : ahead[pair]);
                Check.equal("what is behind", world.run(6, first + 1, 2), 190 - ahead[pair]);
                world.send(6, true);
            }
        }
        CobbleWorld apart = new CobbleWorld();
        apart.set(8, 0, 4, 2);
        apart.set(8, 0, 5, 2);
        apart.set(8, 1, 4, 2);
        Check.equal("those beside and above are not behind it", apart.runs(6), 6);
    }

    private static void terms2RunsOfTheSameLevel() {
        Check.sentence("Terms 2 CHUNKS: as many behind one another as are of the same KIND (and LEVEL) in one RUN");
        CobbleWorld world = new CobbleWorld();
        world.set(0, 0, 0, 6);
        world.tick(12);
        Check.equal("8, 7, 6 and 5", world.run(0, 3, 1), 5);
        Check.equal("then 7, that is no more 5", world.run(0, 4, 1), 7);
        CobbleWorld springs = new CobbleWorld();
        springs.fill(0, 0, 0, 4, 1, 4, 6);
        Check.equal("all of LEVEL 8", springs.run(0, 0, 2), 16);
        CobbleWorld falling = Worlds.fullOf(1);
        falling.fill(0, 0, 0, 4, 1, 2, 0);
        falling.fill(0, 1, 0, 4, 1, 2, 6);
        falling.tick(1);
        Check.equal("all of LEVEL 7", falling.run(0, 0, 2), 8);
        Check.equal("their LEVEL", falling.run(0, 0, 1), 7);
    }

    private static void terms2ComesBackJustSo() {
        Check.sentence("Terms 2 CHUNKS: It comes back just so.");
        CobbleWorld world = new CobbleWorld();
        for (int i = 0; i < 192; i++) {
            world.set(4 + i % 4, i / 16, 4 + i / 4 % 4, (i + i / 7) % 7);
        }
        String before = Sight.of(world);
        world.send(5, true);
        Check.equal("AWAY", world.kind(4, 0, 4), -1);
        world.send(5, false);
        Check.equal("back", Sight.of(world), before);
        CobbleWorld flowing = Worlds.mixedWithoutClip();
        for (int chunk = 0; chunk < 16; chunk++) {
            flowing.send(chunk, false);
        }
        String flown = Sight.of(flowing);
        for (int chunk = 0; chunk < 16; chunk++) {
            flowing.send(chunk, true);
        }
        for (int chunk = 15; chunk >= 0; chunk--) {
            flowing.send(chunk, false);
        }
        Check.equal("all LEVELS are back", Sight.of(flowing), flown);
    }

    private static void terms2OtherChunksGoOn() {
        Check.sentence("Terms 2 CHUNKS: It comes back just so. (whatever has been called while it was AWAY)");
        CobbleWorld world = new CobbleWorld();
        world.fill(4, 8, 4, 4, 1, 4, 4);
        world.set(5, 10, 5, 6);
        world.send(5, true);
        world.tick(12);
        world.landscape(7);
        world.waterIn(12);
        world.calmIn(12);
        world.darkWith(0, 0, 0, 3);
        world.fill(0, 0, 0, 4, 12, 16, 1);
        world.send(5, false);
        Check.equal("SAND is where it was", world.kind(4, 8, 4) + world.kind(7, 8, 7), 8);
        Check.equal("so is the SPRING", world.level(5, 10, 5), 8);
        Check.equal("all others are AIR", world.run(5, 0, 2), 128);
        Check.equal("it has five RUNS", world.runs(5), 5);
    }

    // ---- 5 A TICK

    private static void terms5FromY1Upwards() {
        Check.sentence("Terms 5 A TICK: First SAND: from y 1 on upwards");
        for (int y = 0; y < 12; y++) {
            CobbleWorld world = new CobbleWorld();
            world.set(15, y, 0, 4);
            world.tick(1);
            Check.equal("SAND at y " + y, world.kind(15, Math.max(0, y - 1), 0), 4);
            Check.equal("there is no more", world.count(4), 1);
        }
    }

    private static void terms5AsItsTurnComes() {
        Check.sentence("Terms 5 A TICK: SAND whose NEIGHBOUR below is AIR or WATER (as its turn comes) goes there");
        CobbleWorld world = new CobbleWorld();
        world.fill(2, 1, 3, 1, 11, 1, 4);
        world.tick(1);
        Check.equal("all eleven fall at once", world.top(2, 3), 10);
        Check.equal("by one", world.kind(2, 0, 3), 4);
        CobbleWorld gap = new CobbleWorld();
        gap.set(2, 0, 3, 4);
        gap.set(2, 1, 3, 4);
        gap.set(2, 3, 3, 4);
        gap.set(2, 4, 3, 4);
        gap.set(2, 11, 3, 4);
        gap.tick(1);
        Check.equal("those on the ground stay", gap.kind(2, 1, 3), 4);
        Check.equal("those above the gap fall", gap.kind(2, 2, 3) + gap.kind(2, 3, 3), 8);
        Check.equal("the highest falls just by one", gap.top(2, 3), 10);
    }

    private static void terms5WhatSandFallsInto() {
        Check.sentence("Terms 5 A TICK: SAND whose NEIGHBOUR below is AIR or WATER");
        for (int kind = 0; kind <= 6; kind++) {
            CobbleWorld world = Worlds.fullOf(1);
            world.set(8, 5, 8, kind);
            world.set(8, 6, 8, 4);
            world.tick(1);
            boolean isFallen = kind == 0 || kind == 6;
            Check.equal("above KIND " + kind, world.kind(8, 6, 8), isFallen ? 0 : 4);
            Check.equal("at KIND " + kind, world.kind(8, 5, 8), isFallen ? 4 : kind);
        }
        CobbleWorld flowing = new CobbleWorld();
        flowing.set(0, 0, 0, 6);
        flowing.tick(7);
        flowing.fill(1, 1, 0, 7, 1, 1, 4);
        flowing.tick(1);
        for (int x = 1; x < 8; x++) {
            Check.equal("into WATER of LEVEL " + (8 - x), flowing.kind(x, 0, 0), 4);
        }
    }

    private static void terms5TheWaterIsGone() {
        Check.sentence("Terms 5 A TICK: (the WATER is gone), and its cell is AIR");
        CobbleWorld world = Worlds.fullOf(1);
        world.set(8, 5, 8, 6);
        world.set(8, 6, 8, 4);
        Check.equal("no WATER is left", world.tick(1), 0);
        Check.equal("its cell is AIR", world.kind(8, 6, 8), 0);
        Check.equal("it is the only one", world.count(0), 1);
    }

    private static void terms5BehindTheSand() {
        Check.sentence("Terms 5 A TICK: Then WATER, all at once, by what is there behind that");
        CobbleWorld gone = new CobbleWorld();
        gone.set(5, 0, 5, 6);
        gone.set(5, 1, 5, 4);
        Check.equal("a SPRING below SAND does not flow any more", gone.tick(1), 0);
        CobbleWorld bearing = new CobbleWorld();
        bearing.set(5, 2, 5, 6);
        bearing.set(5, 1, 5, 4);
        bearing.tick(1);
        Check.equal("SAND that has fallen bears no WATER", bearing.kind(6, 2, 5), 0);
        Check.equal("WATER falls behind it", bearing.level(5, 1, 5), 7);
        CobbleWorld below = new CobbleWorld();
        below.set(5, 1, 5, 4);
        below.set(6, 0, 5, 1);
        below.set(6, 1, 5, 6);
        below.tick(1);
        Check.equal("WATER comes where SAND was", below.level(5, 1, 5), 7);
    }

    private static void terms5AllAtOnce() {
        Check.sentence("Terms 5 A TICK: Then WATER, all at once");
        CobbleWorld world = new CobbleWorld();
        world.set(8, 0, 8, 6);
        world.set(3, 11, 3, 6);
        world.set(0, 0, 14, 6);
        world.set(2, 0, 14, 6);
        for (int tick = 1; tick <= 5; tick++) {
            world.tick(1);
            for (int[] step : LEVEL_STEPS) {
                if (tick < 3) {
                    Check.equal("it has just come", world.level(8 + tick * step[0], 0, 8 + tick * step[1]),
                            8 - tick);
                    Check.equal("and not on", world.kind(8 + (tick + 1) * step[0], 0,
                            8 + (tick + 1) * step[1]), 0);
                }
            }
            Check.equal("it falls by one", world.level(3, 11 - tick, 3), 7);
            Check.equal("and not on", world.kind(3, 10 - tick, 3), 0);
        }
        Check.equal("between SPRINGS is one", world.level(1, 0, 14), 8);
    }

    /** STONE up to y 4, and a cell at y 5 with the SPRINGS of a set of its four sides. */
    private static CobbleWorld among(int x, int z, int set) {
        CobbleWorld world = new CobbleWorld();
        world.fill(0, 0, 0, 16, 5, 16, 1);
        for (int i = 0; i < 4; i++) {
            if ((set >> i & 1) == 1) {
                world.set(x + LEVEL_STEPS[i][0], 5, z + LEVEL_STEPS[i][1], 6);
            }
        }
        return world;
    }

    private static void terms5TwoOrMoreSprings() {
        Check.sentence("Terms 5 A TICK: becomes a SPRING, if two or more of the cells that are LEVEL with it are SPRINGS");
        for (int set = 0; set < 16; set++) {
            CobbleWorld world = among(8, 8, set);
            world.tick(1);
            int springs = Integer.bitCount(set);
            Check.equal("the set " + set, world.level(8, 5, 8), springs == 0 ? 0 : springs == 1 ? 7 : 8);
        }
        CobbleWorld corners = among(0, 0, 0b1010);
        corners.tick(1);
        Check.equal("in the first corner of the world", corners.level(0, 5, 0), 8);
        corners = among(15, 15, 0b0101);
        corners.tick(1);
        Check.equal("in the last corner of the world", corners.level(15, 5, 15), 8);
    }

    private static void terms5JustSprings() {
        Check.sentence("Terms 5 A TICK: two or more of the cells that are LEVEL with it are SPRINGS");
        CobbleWorld world = new CobbleWorld();
        world.set(6, 0, 8, 6);
        world.set(10, 0, 8, 6);
        world.tick(2);
        Check.equal("between two of LEVEL 7", world.level(8, 0, 8), 6);
        world.set(7, 0, 8, 6);
        world.tick(1);
        Check.equal("between a SPRING and LEVEL 7", world.level(8, 0, 8), 7);
        world.set(9, 0, 8, 6);
        world.tick(1);
        Check.equal("WATER between two SPRINGS", world.level(8, 0, 8), 8);
        for (int kind = 1; kind <= 5; kind++) {
            CobbleWorld firm = among(8, 8, 15);
            firm.set(8, 5, 8, kind);
            firm.tick(1);
            Check.equal("what is FIRM among SPRINGS", firm.kind(8, 5, 8), kind);
        }
    }

    private static void terms5BelowASpringToBe() {
        Check.sentence("Terms 5 A TICK: and the cell below it is FIRM, BEYOND, or a SPRING");
        for (int kind = 0; kind <= 6; kind++) {
            CobbleWorld world = among(8, 8, 3);
            world.set(8, 4, 8, kind);
            world.tick(1);
            Check.equal("above KIND " + kind, world.level(8, 5, 8), kind == 0 ? 7 : 8);
        }
        CobbleWorld flowing = among(8, 8, 0);
        flowing.set(8, 5, 8, 6);
        flowing.set(8, 4, 8, 0);
        flowing.tick(1);
        flowing.set(8, 5, 8, 0);
        flowing.set(7, 5, 8, 6);
        flowing.set(9, 5, 8, 6);
        Check.equal("WATER of LEVEL 7 is below", flowing.level(8, 4, 8), 7);
        flowing.tick(1);
        Check.equal("no SPRING above it", flowing.level(8, 5, 8), 7);
        CobbleWorld ground = new CobbleWorld();
        ground.set(7, 0, 8, 6);
        ground.set(9, 0, 8, 6);
        ground.tick(1);
        Check.equal("below y 0 it is BEYOND", ground.level(8, 0, 8), 8);
    }

    private static void terms5BelowWater() {
        Check.sentence("Terms 5 A TICK: otherwise WATER of the LEVEL 7, if the cell above it is WATER");
        CobbleWorld world = Worlds.fullOf(1);
        world.fill(0, 5, 0, 8, 1, 1, 0);
        world.set(0, 5, 0, 6);
        world.tick(7);
        Check.equal("LEVEL 1", world.level(7, 5, 0), 1);
        world.fill(3, 3, 0, 5, 2, 1, 0);
        world.tick(1);
        for (int x = 3; x < 8; x++) {
            Check.equal("below LEVEL " + (8 - x), world.level(x, 4, 0), 7);
        }
        CobbleWorld spring = new CobbleWorld();
        spring.set(15, 11, 15, 6);
        spring.set(0, 1, 0, 6);
        spring.tick(1);
        Check.equal("below a SPRING", spring.level(15, 10, 15), 7);
        Check.equal("at y 0", spring.level(0, 0, 0), 7);
        Check.equal("above y 11 there is no WATER", spring.count(6), 4);
        for (int kind = 1; kind <= 5; kind++) {
            CobbleWorld firm = new CobbleWorld();
            firm.set(8, 4, 8, 1);
            firm.set(8, 5, 8, kind);
            firm.set(8, 6, 8, 6);
            firm.tick(1);
            Check.equal("what is FIRM below WATER", firm.kind(8, 5, 8), kind);
        }
    }

    private static void terms5SpringGoesAheadOfBelowWater() {
        Check.sentence("Terms 5 A TICK: otherwise WATER of the LEVEL 7, if the cell above it is WATER; otherwise WATER with the greatest LEVEL, less 1");
        CobbleWorld world = among(8, 8, 3);
        world.set(8, 6, 8, 6);
        world.tick(1);
        Check.equal("below WATER, between SPRINGS", world.level(8, 5, 8), 8);
        CobbleWorld low = new CobbleWorld();
        low.set(2, 0, 8, 6);
        low.tick(5);
        low.set(8, 2, 8, 6);
        low.tick(2);
        Check.equal("below WATER, beside LEVEL 3", low.level(8, 0, 8), 7);
    }

    private static void terms5GreatestLevel() {
        Check.sentence("Terms 5 A TICK: otherwise WATER with the greatest LEVEL, less 1, of all cells LEVEL with it that are WATER");
        CobbleWorld world = new CobbleWorld();
        world.set(0, 0, 0, 6);
        world.set(10, 0, 0, 6);
        world.tick(12);
        // From the left 8 to 4, from the right 8 down to 3 in the middle.
        int[] due = {8, 7, 6, 5, 4, 3, 4, 5, 6, 7, 8, 7, 6, 5, 4, 3};
        for (int x = 0; x < 16; x++) {
            Check.equal("at x " + x, world.level(x, 0, 0), due[x]);
        }
        for (int i = 0; i < 4; i++) {
            CobbleWorld one = among(8, 8, 1 << i);
            one.tick(1);
            Check.equal("of the side " + i, one.level(8, 5, 8), 7);
        }
    }

    private static void terms5ItsOwnLevelDoesNotCount() {
        Check.sentence("Terms 5 A TICK: WATER with the greatest LEVEL, less 1, of all cells LEVEL with it");
        CobbleWorld world = Worlds.fullOf(1);
        world.fill(0, 5, 0, 4, 1, 1, 0);
        world.set(0, 5, 0, 6);
        world.tick(3);
        world.set(0, 5, 0, 1);
        // Behind 7, 6 and 5, each cell has but its NEIGHBOURS to take from.
        int[][] due = {{5, 6, 5}, {5, 4, 5}, {3, 4, 3}};
        for (int tick = 0; tick < 3; tick++) {
            world.tick(1);
            for (int i = 0; i < 3; i++) {
                Check.equal("tick " + tick + " at x " + (1 + i), world.level(1 + i, 5, 0), due[tick][i]);
            }
        }
        CobbleWorld alone = new CobbleWorld();
        alone.set(8, 1, 8, 6);
        alone.tick(1);
        alone.set(8, 1, 8, 0);
        Check.equal("LEVEL 7 alone", alone.level(8, 0, 8), 7);
        alone.tick(1);
        Check.equal("it is AIR", alone.kind(8, 0, 8), 0);
    }

    private static void terms5BelowTheOneBeside() {
        Check.sentence("Terms 5 A TICK: and whose cell below is FIRM, BEYOND or a SPRING");
        for (int kind = 0; kind <= 6; kind++) {
            CobbleWorld world = among(8, 8, 1);
            world.set(7, 4, 8, kind);
            world.tick(1);
            Check.equal("it stands on KIND " + kind, world.level(8, 5, 8), kind == 0 ? 0 : 7);
        }
        CobbleWorld falling = among(8, 8, 1);
        falling.set(7, 4, 8, 0);
        falling.tick(2);
        Check.equal("it stands on LEVEL 7", falling.level(7, 4, 8), 7);
        Check.equal("so it does not flow", falling.kind(8, 5, 8), 0);
        CobbleWorld two = among(8, 8, 1);
        two.set(7, 4, 8, 0);
        two.set(9, 5, 8, 6);
        two.set(9, 4, 8, 1);
        two.set(8, 4, 8, 0);
        two.tick(1);
        Check.equal("the other one stands on STONE", two.level(8, 5, 8), 7);
        CobbleWorld ground = new CobbleWorld();
        ground.set(0, 0, 15, 6);
        ground.tick(1);
        Check.equal("it stands on BEYOND", ground.level(1, 0, 15), 7);
    }

    private static void terms5NoneIsAir() {
        Check.sentence("Terms 5 A TICK: if that is 0, or there are none, it is AIR");
        CobbleWorld world = Worlds.fullOf(1);
        world.fill(0, 5, 0, 16, 1, 1, 0);
        world.set(0, 5, 0, 6);
        world.tick(12);
        Check.equal("LEVEL 1", world.level(7, 5, 0), 1);
        Check.equal("beside it", world.kind(8, 5, 0), 0);
        Check.equal("farther on", world.kind(9, 5, 0), 0);
        world.set(6, 5, 0, 1);
        world.tick(1);
        Check.equal("LEVEL 1 with none beside", world.kind(7, 5, 0), 0);
        Check.equal("all WATER is ahead of the STONE", world.count(6), 6);
    }

    private static void terms5SpringsStay() {
        Check.sentence("Terms 5 A TICK: a cell that is AIR, or WATER but no SPRING");
        CobbleWorld world = Worlds.fullOf(1);
        world.set(8, 5, 8, 6);
        Check.equal("a SPRING alone", world.tick(12), 1);
        Check.equal("it is one still", world.level(8, 5, 8), 8);
        world.set(8, 4, 8, 0);
        world.set(8, 6, 8, 0);
        world.set(8, 6, 8, 6);
        world.tick(12);
        Check.equal("below WATER, above AIR", world.level(8, 5, 8), 8);
        Check.equal("what is below it", world.level(8, 4, 8), 7);
    }

    private static void terms5Beyond() {
        Check.sentence("Terms 5 A TICK: cells that are LEVEL with it (what is BEYOND is no WATER)");
        CobbleWorld world = among(8, 8, 15);
        world.send(9, true);
        world.send(6, true);
        // Two of the four SPRINGS, at x 7 and z 7, are AWAY now.
        world.set(9, 5, 8, 0);
        world.tick(1);
        Check.equal("one SPRING is left HERE", world.level(8, 5, 8), 7);
        world.send(10, true);
        world.tick(12);
        world.send(10, false);
        Check.equal("WATER that is AWAY stays", world.level(8, 5, 8), 7);
        world.send(9, false);
        world.send(6, false);
        world.tick(1);
        Check.equal("all are HERE", world.level(8, 5, 8), 8);
    }
}
