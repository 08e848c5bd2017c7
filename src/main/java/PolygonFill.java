/** Polygons painted into a raster; ../shared/DOC.md holds the promises it keeps. */
public final class PolygonFill {
    public static final int BAD_POINT = -1;
    public static final int FULL = -2;
    public static final int BAD_COLOUR = -3;
    public static final int BAD_PIXEL = -4;

    private static final int SIDE = 16;
    private static final int PIXELS = 256;
    private static final int UNITS_PER_PIXEL = 4;
    private static final int SAMPLES_PER_PIXEL = 4;
    private static final int MAX_COORDINATE = 64;
    private static final int MAX_COLOUR = 255;
    private static final int MAX_CONTOURS = 4;
    private static final int MAX_CORNERS = 12;

    private final int[] colours = new int[PIXELS];
    private final int[] cornerX = new int[MAX_CORNERS];
    private final int[] cornerY = new int[MAX_CORNERS];
    private final boolean[] beginsContour = new boolean[MAX_CORNERS];
    private int contourCount;
    private int cornerCount;

    public PolygonFill() {
        contourCount = 0;
        cornerCount = 0;
    }

    public int begin(int x, int y) {
        if (!isPoint(x, y)) {
            return BAD_POINT;
        }
        if (contourCount >= MAX_CONTOURS || cornerCount >= MAX_CORNERS) {
            return FULL;
        }
        append(x, y, true);
        contourCount++;
        return contourCount;
    }

    public int corner(int x, int y) {
        if (!isPoint(x, y)) {
            return BAD_POINT;
        }
        if (contourCount == 0 || cornerCount >= MAX_CORNERS) {
            return FULL;
        }
        append(x, y, false);
        return cornerCount;
    }

    public int move(int dx, int dy) {
        // All corners are looked at before any is moved: a refused move changes nothing.
        // A sum that wraps around is still far outside 0 to 64, so int is wide enough.
        for (int i = 0; i < cornerCount; i++) {
            if (!isPoint(cornerX[i] + dx, cornerY[i] + dy)) {
                return BAD_POINT;
            }
        }
        for (int i = 0; i < cornerCount; i++) {
            cornerX[i] += dx;
            cornerY[i] += dy;
        }
        return cornerCount;
    }

    public void mirror() {
        for (int i = 0; i < cornerCount; i++) {
            int x = cornerX[i];
            cornerX[i] = cornerY[i];
            cornerY[i] = x;
        }
    }

    public void clear() {
        contourCount = 0;
        cornerCount = 0;
    }

    public int paint(int colour, boolean odd) {
        if (!isColour(colour)) {
            return BAD_COLOUR;
        }
        int painted = 0;
        for (int row = 0; row < SIDE; row++) {
            for (int column = 0; column < SIDE; column++) {
                int covered = coveredSamples(row, column, odd);
                blend(row * SIDE + column, colour, covered);
                if (covered > 0) {
                    painted++;
                }
            }
        }
        return painted;
    }

    public int wipe(int colour) {
        if (!isColour(colour)) {
            return BAD_COLOUR;
        }
        for (int i = 0; i < PIXELS; i++) {
            colours[i] = colour;
        }
        return 0;
    }

    public int pixel(int row, int column) {
        if (!isPixel(row, column)) {
            return BAD_PIXEL;
        }
        return colours[row * SIDE + column];
    }

    public int coverage(int row, int column, boolean odd) {
        if (!isPixel(row, column)) {
            return BAD_PIXEL;
        }
        return coveredSamples(row, column, odd);
    }

    public int area(boolean odd) {
        int sum = 0;
        for (int row = 0; row < SIDE; row++) {
            for (int column = 0; column < SIDE; column++) {
                sum += coveredSamples(row, column, odd);
            }
        }
        return sum;
    }

    public int winding(int x, int y) {
        if (!isPoint(x, y)) {
            return 0;
        }
        return windingAt(x, y);
    }

    public int rowSum(int row) {
        if (!isPixel(row, 0)) {
            return BAD_PIXEL;
        }
        int sum = 0;
        for (int column = 0; column < SIDE; column++) {
            sum += colours[row * SIDE + column];
        }
        return sum;
    }

    private static boolean isPoint(int x, int y) {
        return x >= 0 && x <= MAX_COORDINATE && y >= 0 && y <= MAX_COORDINATE;
    }

    private static boolean isColour(int colour) {
        return colour >= 0 && colour <= MAX_COLOUR;
    }

    private static boolean isPixel(int row, int column) {
        return row >= 0 && row < SIDE && column >= 0 && column < SIDE;
    }

    /** The caller has made sure that there is room for one corner more. */
    private void append(int x, int y, boolean begins) {
        cornerX[cornerCount] = x;
        cornerY[cornerCount] = y;
        beginsContour[cornerCount] = begins;
        cornerCount++;
    }

    private void blend(int index, int colour, int covered) {
        // Nothing here is negative, so the division rounds down.
        int mixed = colours[index] * (SAMPLES_PER_PIXEL - covered) + colour * covered;
        colours[index] = mixed / SAMPLES_PER_PIXEL;
    }

    private int coveredSamples(int row, int column, boolean odd) {
        int left = column * UNITS_PER_PIXEL;
        int top = row * UNITS_PER_PIXEL;
        int covered = 0;
        // Samples stand at the offsets 1 and 3 in both directions.
        for (int down = 1; down < UNITS_PER_PIXEL; down += 2) {
            for (int across = 1; across < UNITS_PER_PIXEL; across += 2) {
                if (isInside(left + across, top + down, odd)) {
                    covered++;
                }
            }
        }
        return covered;
    }

    private boolean isInside(int x, int y, boolean odd) {
        int turns = windingAt(x, y);
        if (odd) {
            // The lowest bit tells odd from even for negative windings too; a remainder would be -1.
            return (turns & 1) == 1;
        }
        return turns != 0;
    }

    private int windingAt(int x, int y) {
        int sum = 0;
        int first = 0;
        for (int i = 0; i < cornerCount; i++) {
            if (beginsContour[i]) {
                first = i;
            }
            boolean closes = i + 1 >= cornerCount || beginsContour[i + 1];
            int next = closes ? first : i + 1;
            sum += edgeWinding(i, next, x, y);
        }
        return sum;
    }

    private int edgeWinding(int from, int to, int x, int y) {
        boolean falls = cornerY[from] <= y && y < cornerY[to];
        boolean rises = cornerY[to] <= y && y < cornerY[from];
        if (falls && isRightOf(from, to, x, y)) {
            return 1;
        }
        if (rises && isRightOf(to, from, x, y)) {
            return -1;
        }
        return 0;
    }

    /** Whether the edge's point at the height y lies strictly to the right of x; low has the smaller y. */
    private boolean isRightOf(int low, int high, int x, int y) {
        // Multiplied by the edge's height, which is above 0, so that no fraction is rounded.
        int height = cornerY[high] - cornerY[low];
        int width = cornerX[high] - cornerX[low];
        return (cornerX[low] - x) * height + (y - cornerY[low]) * width > 0;
    }
}
