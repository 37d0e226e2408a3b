import java.util.ArrayList;
import java.util.Arrays;
import java.util.List;

/** Arguments just outside of what the document allows, and those at the ends of int. */
final class Wrong {
    static final int[][] CELLS = {{-1, 0, 0}, {16, 0, 0}, {0, -1, 0}, {0, 12, 0}, {0, 0, -1},
        {0, 0, 16}, {-1, 11, 15}, {16, 11, 15}, {15, -1, 15}, {15, 12, 15}, {15, 11, -1},
        {15, 11, 16}, {-1, 1, 1}, {1, 12, 1}, {1, 1, -1}, {Integer.MIN_VALUE, 0, 0},
        {Integer.MAX_VALUE, 0, 0}, {0, Integer.MIN_VALUE, 0}, {0, Integer.MAX_VALUE, 0},
        {0, 0, Integer.MIN_VALUE}, {0, 0, Integer.MAX_VALUE}};
    static final int[] KINDS = beside(0, 6);
    static final int[] SIDES = beside(0, 5);
    static final int[] CHUNKS = beside(0, 15);
    static final int[] TICKS = beside(1, 12);

    private Wrong() {
    }

    static int[] beside(int least, int greatest) {
        return new int[] {least - 1, greatest + 1, Integer.MIN_VALUE, Integer.MAX_VALUE};
    }

    /** Boxes (x, y, z, w, h, d) with a wrong size, or with a cell that is not in the world. */
    static List<int[]> boxes(int most) {
        List<int[]> boxes = new ArrayList<>();
        for (int axis = 0; axis < 3; axis++) {
            int last = axis == 1 ? 11 : 15;
            int longest = Math.min(most, last + 1);
            for (int size : new int[] {0, -1, most + 1, Integer.MIN_VALUE, Integer.MAX_VALUE}) {
                boxes.add(box(axis, 0, size));
                boxes.add(box(axis, 2, size));
            }
            boxes.add(box(axis, -1, 1));
            boxes.add(box(axis, -1, 2));
            boxes.add(box(axis, last + 1, 1));
            boxes.add(box(axis, last, 2));
            boxes.add(box(axis, last + 2 - longest, longest));
            boxes.add(box(axis, Integer.MIN_VALUE, 2));
            boxes.add(box(axis, Integer.MAX_VALUE, 2));
            boxes.add(box(axis, Integer.MAX_VALUE, most));
        }
        return boxes;
    }

    /** A box of 1 by 1 by 1, but for one axis. */
    private static int[] box(int axis, int from, int size) {
        int[] box = {1, 1, 1, 1, 1, 1};
        box[axis] = from;
        box[3 + axis] = size;
        return box;
    }

    static String told(String call, int... arguments) {
        return call + Arrays.toString(arguments);
    }
}
