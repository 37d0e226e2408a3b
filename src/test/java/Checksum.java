import java.math.BigInteger;
import java.util.ArrayList;
import java.util.List;
import java.util.function.Supplier;

/** The checksum of promise 30 from the answers of all the other calls, before it wraps around. */
final class Checksum {
    private Checksum() {
    }

    static BigInteger of(Supplier<CobbleWorld> made) {
        BigInteger d = BigInteger.valueOf(58054);
        for (int number : numbers(made)) {
            d = d.multiply(BigInteger.valueOf(31)).add(BigInteger.valueOf(number));
        }
        return d;
    }

    /** Each few numbers are asked of a world of its own, as one world answers just 512 calls. */
    static List<Integer> numbers(Supplier<CobbleWorld> made) {
        CobbleWorld world = made.get();
        List<Integer> numbers = new ArrayList<>(List.of(world.ticks(), world.away()));
        for (int chunk = 0; chunk < 16; chunk++) {
            addRuns(numbers, made, chunk);
        }
        for (int kind = 0; kind <= 6; kind++) {
            numbers.add(world.count(kind));
        }
        numbers.addAll(List.of(world.dark(4), world.dark(8), world.dark(12)));
        for (int chunk = 0; chunk < 16; chunk++) {
            for (int side : new int[] {3, 0}) {
                numbers.add(world.faces(chunk, side));
                numbers.add(world.quads(chunk, side));
            }
        }
        for (int x = 0; x < 16; x++) {
            numbers.add(world.top(x, x));
        }
        numbers.add(world.waterIn(3));
        return numbers;
    }

    private static void addRuns(List<Integer> numbers, Supplier<CobbleWorld> made, int chunk) {
        CobbleWorld[] worlds = {made.get(), made.get(), made.get()};
        int runs = worlds[0].runs(chunk);
        numbers.add(runs);
        for (int run = 0; run < runs; run++) {
            for (int what = 0; what < 3; what++) {
                numbers.add(worlds[what].run(chunk, run, what));
            }
        }
    }
}
