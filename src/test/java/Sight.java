/** What can be seen of a world, as one text: two that are equal in all give the same. */
final class Sight {
    private Sight() {
    }

    /** All but the CLIP. The digest goes through the RUNS, so through the cells, of all CHUNKS. */
    static String of(CobbleWorld world) {
        StringBuilder told = new StringBuilder("ticks " + world.ticks() + ", away " + world.away());
        told.append(", digest ").append(world.digest());
        told.append(", gain ").append(world.gain());
        told.append(", brightness ").append(world.brightness()).append(", counts");
        for (int kind = 0; kind <= 6; kind++) {
            told.append(' ').append(world.count(kind));
        }
        told.append(", dark");
        for (int light = 1; light <= 15; light++) {
            told.append(' ').append(world.dark(light));
        }
        return told.toString();
    }

    /** The CLIP. It can only be seen as it is pasted: nothing else of the world is left behind. */
    static String ofClip(CobbleWorld world) {
        StringBuilder told = new StringBuilder();
        try {
            for (int i = 0; i < 4; i++) {
                told.append("turned ").append(world.turn()).append(", ");
            }
        } catch (IllegalStateException thrown) {
            return "none";
        }
        for (int chunk = 0; chunk < 16; chunk++) {
            world.send(chunk, false);
        }
        world.fill(0, 0, 0, 16, 12, 16, 0);
        told.append("pasted ").append(world.paste(0, 0, 0, true));
        return told.append(", digest ").append(world.digest()).toString();
    }
}
