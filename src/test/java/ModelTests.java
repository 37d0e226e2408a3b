import java.util.Random;
import java.util.function.Supplier;

/**
 * Makes the same calls, drawn by fixed seeds, on a CobbleWorld and on the model, and compares every
 * answer and every exception. 512 calls, as many as an object is used for, are made on each.
 */
public final class ModelTests {
    private static final int WORLDS = 60;
    private static final int CALLS = 512;
    private static final int[] STRANGE = {
        -1, 12, 16, 17, 1000, Integer.MIN_VALUE, Integer.MAX_VALUE, Integer.MAX_VALUE - 3};

    private final Random random;
    private final CobbleWorld world = new CobbleWorld();
    private final WorldModel model = new WorldModel();
    private final int seed;
    /** The more there are, the more calls change something, instead of asking. */
    private final int changes;

    private ModelTests(int seed) {
        this.seed = seed;
        random = new Random(seed);
        changes = 30 + random.nextInt(50);
    }

    public static void main(String[] args) {
        for (int seed = 0; seed < WORLDS && Check.wrong() == 0; seed++) {
            new ModelTests(seed).go();
        }
        Check.end();
    }

    private void go() {
        for (int call = 0; call < CALLS && Check.wrong() == 0; call++) {
            if (call == 0 && seed % 3 != 0) {
                landscape();
            } else if (call % 128 == 127) {
                same("digest()", world::digest, model::digest);
            } else if (random.nextInt(100) < changes) {
                change();
            } else {
                ask();
            }
        }
    }

    private void same(String call, Supplier<Object> got, Supplier<Object> due) {
        String answer = outcome(got);
        String right = outcome(due);
        if (!answer.equals(right)) {
            Check.fail("world " + seed + ": " + call + " answered " + answer + ", due is " + right);
        }
    }

    private static String outcome(Supplier<Object> call) {
        try {
            return call.get().toString();
        } catch (RuntimeException thrown) {
            return thrown.getClass().getName();
        }
    }

    /** A number from 0 to below n; now and then a wrong one. */
    private int below(int n) {
        return random.nextInt(40) == 0 ? STRANGE[random.nextInt(STRANGE.length)] : random.nextInt(n);
    }

    private int upTo(int n) {
        return random.nextInt(60) == 0 ? STRANGE[random.nextInt(STRANGE.length)]
                : 1 + random.nextInt(n);
    }

    private static String told(String name, int... arguments) {
        return name + java.util.Arrays.toString(arguments);
    }

    private void change() {
        switch (random.nextInt(12)) {
            case 0, 1, 2 -> set();
            case 3, 4 -> fill();
            case 5 -> {
                if (random.nextInt(8) == 0) {
                    landscape();
                } else {
                    tick();
                }
            }
            case 6, 7 -> send();
            case 8 -> tick();
            case 9 -> copy();
            case 10 -> same("turn()", world::turn, model::turn);
            default -> paste();
        }
    }

    private void set() {
        int x = below(16);
        int y = below(12);
        int z = below(16);
        int kind = below(7);
        same(told("set", x, y, z, kind),
                () -> world.set(x, y, z, kind), () -> model.set(x, y, z, kind));
    }

    private void fill() {
        int w = upTo(8);
        int h = upTo(3);
        int d = upTo(8);
        int x = below(Math.max(1, 17 - Math.max(w, 0)));
        int y = below(Math.max(1, 13 - Math.max(h, 0)));
        int z = below(Math.max(1, 17 - Math.max(d, 0)));
        int kind = below(7);
        same(told("fill", x, y, z, w, h, d, kind),
                () -> world.fill(x, y, z, w, h, d, kind), () -> model.fill(x, y, z, w, h, d, kind));
    }

    private void landscape() {
        int number = below(1000);
        same(told("landscape", number),
                () -> world.landscape(number), () -> model.landscape(number));
    }

    private void send() {
        int chunk = below(16);
        boolean isAway = random.nextInt(3) == 0;
        same(told("send", chunk) + isAway,
                () -> world.send(chunk, isAway), () -> model.send(chunk, isAway));
    }

    private void tick() {
        int ticks = upTo(4);
        same(told("tick", ticks), () -> world.tick(ticks), () -> model.tick(ticks));
    }

    private void copy() {
        int w = upTo(8);
        int h = upTo(8);
        int d = upTo(8);
        int x = below(Math.max(1, 17 - Math.max(w, 0)));
        int y = below(Math.max(1, 13 - Math.max(h, 0)));
        int z = below(Math.max(1, 17 - Math.max(d, 0)));
        same(told("copy", x, y, z, w, h, d),
                () -> world.copy(x, y, z, w, h, d), () -> model.copy(x, y, z, w, h, d));
    }

    private void paste() {
        int x = below(14);
        int y = below(10);
        int z = below(14);
        boolean isAir = random.nextBoolean();
        same(told("paste", x, y, z) + isAir,
                () -> world.paste(x, y, z, isAir), () -> model.paste(x, y, z, isAir));
    }

    private void ask() {
        int x = below(16);
        int y = below(12);
        int z = below(16);
        int kind = below(7);
        int chunk = below(16);
        int side = below(6);
        int number = below(20);
        int what = below(6);
        int light = upTo(15);
        int ticks = upTo(12);
        switch (random.nextInt(20)) {
            case 0 -> same("ticks()", world::ticks, model::ticks);
            case 1 -> same(told("kind", x, y, z),
                    () -> world.kind(x, y, z), () -> model.kind(x, y, z));
            case 2 -> same(told("level", x, y, z),
                    () -> world.level(x, y, z), () -> model.level(x, y, z));
            case 3 -> same(told("top", x, z), () -> world.top(x, z), () -> model.top(x, z));
            case 4 -> same(told("count", kind), () -> world.count(kind), () -> model.count(kind));
            case 5 -> same(told("look", x, y, z, side),
                    () -> world.look(x, y, z, side), () -> model.look(x, y, z, side));
            case 6 -> same("away()", world::away, model::away);
            case 7 -> same(told("runs", chunk), () -> world.runs(chunk), () -> model.runs(chunk));
            case 8 -> same(told("run", chunk, number, what / 2),
                    () -> world.run(chunk, number, what / 2),
                    () -> model.run(chunk, number, what / 2));
            case 9 -> same(told("sky", x, y, z),
                    () -> world.sky(x, y, z), () -> model.sky(x, y, z));
            case 10 -> same(told("glow", x, y, z),
                    () -> world.glow(x, y, z), () -> model.glow(x, y, z));
            case 11 -> same(told("dark", light), () -> world.dark(light), () -> model.dark(light));
            case 12 -> same(told("faces", chunk, side),
                    () -> world.faces(chunk, side), () -> model.faces(chunk, side));
            case 13 -> same(told("quads", chunk, side),
                    () -> world.quads(chunk, side), () -> model.quads(chunk, side));
            case 14 -> same(told("quad", chunk, side, number, what),
                    () -> world.quad(chunk, side, number, what),
                    () -> model.quad(chunk, side, number, what));
            case 15 -> same("gain()", world::gain, model::gain);
            case 16 -> same("brightness()", world::brightness, model::brightness);
            case 17 -> same(told("darkWith", x, y, z, kind),
                    () -> world.darkWith(x, y, z, kind), () -> model.darkWith(x, y, z, kind));
            case 18 -> same(told("calmIn", ticks),
                    () -> world.calmIn(ticks), () -> model.calmIn(ticks));
            default -> same(told("waterIn", ticks),
                    () -> world.waterIn(ticks), () -> model.waterIn(ticks));
        }
    }
}
