import java.util.ArrayList;
import java.util.List;

/**
 * The document told a second time, as near to its words as can be and in another way than the class:
 * lists of contours, and an edge's point as a fraction. (The fractions' divisors are at most 64, so a
 * double tells them from whole numbers without fail.)
 */
final class Model {
    private final List<List<int[]>> contours = new ArrayList<>();
    private final int[][] raster = new int[16][16];

    private static boolean within(int value, int least, int greatest) {
        return least <= value && value <= greatest;
    }

    private static boolean goodPoint(long x, long y) {
        return 0 <= x && x <= 64 && 0 <= y && y <= 64;
    }

    private List<int[]> corners() {
        List<int[]> all = new ArrayList<>();
        contours.forEach(all::addAll);
        return all;
    }

    int begin(int x, int y) {
        if (!goodPoint(x, y)) {
            return -1;
        }
        if (contours.size() == 4 || corners().size() == 12) {
            return -2;
        }
        contours.add(new ArrayList<>(List.of(new int[] {x, y})));
        return contours.size();
    }

    int corner(int x, int y) {
        if (!goodPoint(x, y)) {
            return -1;
        }
        if (contours.isEmpty() || corners().size() == 12) {
            return -2;
        }
        contours.get(contours.size() - 1).add(new int[] {x, y});
        return corners().size();
    }

    int move(int dx, int dy) {
        for (int[] corner : corners()) {
            if (!goodPoint((long) corner[0] + dx, (long) corner[1] + dy)) {
                return -1;
            }
        }
        for (int[] corner : corners()) {
            corner[0] += dx;
            corner[1] += dy;
        }
        return corners().size();
    }

    void mirror() {
        for (int[] corner : corners()) {
            int x = corner[0];
            corner[0] = corner[1];
            corner[1] = x;
        }
    }

    void clear() {
        contours.clear();
    }

    int paint(int colour, boolean odd) {
        if (!within(colour, 0, 255)) {
            return -3;
        }
        int painted = 0;
        for (int row = 0; row < 16; row++) {
            for (int column = 0; column < 16; column++) {
                int k = coverage(row, column, odd);
                raster[row][column] = Math.floorDiv(raster[row][column] * (4 - k) + colour * k, 4);
                painted += k > 0 ? 1 : 0;
            }
        }
        return painted;
    }

    int wipe(int colour) {
        if (!within(colour, 0, 255)) {
            return -3;
        }
        for (int[] row : raster) {
            java.util.Arrays.fill(row, colour);
        }
        return 0;
    }

    int pixel(int row, int column) {
        return within(row, 0, 15) && within(column, 0, 15) ? raster[row][column] : -4;
    }

    int coverage(int row, int column, boolean odd) {
        if (!within(row, 0, 15) || !within(column, 0, 15)) {
            return -4;
        }
        int[][] samples = {
            {4 * column + 1, 4 * row + 1}, {4 * column + 3, 4 * row + 1},
            {4 * column + 1, 4 * row + 3}, {4 * column + 3, 4 * row + 3}};
        int k = 0;
        for (int[] sample : samples) {
            int turns = winding(sample[0], sample[1]);
            k += (odd ? turns % 2 != 0 : turns != 0) ? 1 : 0;
        }
        return k;
    }

    int area(boolean odd) {
        int sum = 0;
        for (int row = 0; row < 16; row++) {
            for (int column = 0; column < 16; column++) {
                sum += coverage(row, column, odd);
            }
        }
        return sum;
    }

    int winding(int x, int y) {
        if (!goodPoint(x, y)) {
            return 0;
        }
        int sum = 0;
        for (List<int[]> contour : contours) {
            for (int i = 0; i < contour.size(); i++) {
                sum += edge(contour.get(i), contour.get((i + 1) % contour.size()), x, y);
            }
        }
        return sum;
    }

    private static int edge(int[] one, int[] two, int x, int y) {
        boolean down = one[1] <= y && y < two[1];
        boolean up = two[1] <= y && y < one[1];
        if (!down && !up) {
            return 0;
        }
        double crossing = one[0] + (double) ((y - one[1]) * (two[0] - one[0])) / (two[1] - one[1]);
        if (crossing <= x) {
            return 0;
        }
        return down ? 1 : -1;
    }

    int rowSum(int row) {
        return within(row, 0, 15) ? java.util.Arrays.stream(raster[row]).sum() : -4;
    }
}
