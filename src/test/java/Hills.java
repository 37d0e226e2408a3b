/** The example of README.md. */
public final class Hills {
    private Hills() {
    }

    public static void main(String[] args) {
        CobbleWorld world = new CobbleWorld();
        System.out.println("cells that are not AIR: " + world.landscape(17));

        world.set(8, 9, 8, 6);                  // a SPRING at x 8, y 9, z 8
        System.out.println("cells of WATER 4 ticks on: " + world.tick(4));
        System.out.println("LEVEL at (8, 7, 8): " + world.level(8, 7, 8));
        System.out.println("SKY at (8, 7, 8): " + world.sky(8, 7, 8));
        System.out.println("FACES of CHUNK 10 to above: " + world.faces(10, 3)
                + ", laid together in " + world.quads(10, 3) + " QUADS");

        world.copy(8, 4, 8, 3, 6, 2);           // THE CLIP: 3 by 6 by 2 cells from (8, 4, 8)
        System.out.println("x of the CLIP, turned once: " + world.turn());
        System.out.println("cells changed: " + world.paste(0, 6, 0, false));

        world.send(5, true);                    // CHUNK 5 goes AWAY
        System.out.println("CHUNKS that are AWAY: " + world.away());
        System.out.println("KIND at (4, 0, 4): " + world.kind(4, 0, 4));
        try {
            world.set(4, 0, 4, 1);
        } catch (IllegalStateException refused) {
            System.out.println("refused: " + refused.getMessage());
        }
    }
}
