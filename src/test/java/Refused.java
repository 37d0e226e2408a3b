import java.util.function.Consumer;
import java.util.function.Supplier;

/** Calls that the document refuses: each must throw just what is due, and change nothing. */
final class Refused {
    private Refused() {
    }

    static void index(String call, Supplier<CobbleWorld> made, Consumer<CobbleWorld> refused) {
        check(IndexOutOfBoundsException.class, call, made, refused);
    }

    static void argument(String call, Supplier<CobbleWorld> made, Consumer<CobbleWorld> refused) {
        check(IllegalArgumentException.class, call, made, refused);
    }

    static void state(String call, Supplier<CobbleWorld> made, Consumer<CobbleWorld> refused) {
        check(IllegalStateException.class, call, made, refused);
    }

    private static void check(Class<? extends RuntimeException> due, String call,
            Supplier<CobbleWorld> made, Consumer<CobbleWorld> refused) {
        CobbleWorld world = made.get();
        String before = Sight.of(world);
        Check.throwing(call, due, () -> refused.accept(world));
        Check.equal("behind " + call + " the world", Sight.of(world), before);
        // The CLIP can't be seen before: so it is held to that of a world on which nothing was called.
        Check.equal("behind " + call + " the CLIP", Sight.ofClip(world), Sight.ofClip(made.get()));
    }
}
