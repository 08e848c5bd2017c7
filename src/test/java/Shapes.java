import java.util.function.Consumer;

/** Shapes and looks at whole objects that several tests share. */
final class Shapes {
    static final int[] NOT_COORDINATES = {-1, 65, -64, 128, Integer.MIN_VALUE, Integer.MAX_VALUE};
    static final int[] NOT_PLACES = {-1, 16, -16, 256, Integer.MIN_VALUE, Integer.MAX_VALUE};
    static final int[] NOT_COLOURS = {-1, 256, -255, 511, Integer.MIN_VALUE, Integer.MAX_VALUE};

    private Shapes() {
    }

    /** One contour through the points x0, y0, x1, y1 and so on. */
    static void contour(PolygonFill fill, int... points) {
        fill.begin(points[0], points[1]);
        for (int i = 2; i < points.length; i += 2) {
            fill.corner(points[i], points[i + 1]);
        }
    }

    /** A rectangle whose inside has the winding 1. */
    static void rectangle(PolygonFill fill, int left, int top, int right, int bottom) {
        contour(fill, left, top, right, top, right, bottom, left, bottom);
    }

    /** The same rectangle the other way round: its inside has the winding -1. */
    static void reversedRectangle(PolygonFill fill, int left, int top, int right, int bottom) {
        contour(fill, left, top, left, bottom, right, bottom, right, top);
    }

    /** A shape that holds those samples of one pixel, of all points, whose bits are set: 0 to 15. */
    static Consumer<PolygonFill> samples(int row, int column, int bits) {
        return fill -> {
            for (int i = 0; i < 4; i++) {
                if ((bits >> i & 1) == 1) {
                    int x = 4 * column + 1 + i % 2 * 2;
                    int y = 4 * row + 1 + i / 2 * 2;
                    contour(fill, x, y, x + 1, y, x, y + 1);
                }
            }
        };
    }

    static PolygonFill after(Consumer<PolygonFill> run) {
        PolygonFill fill = new PolygonFill();
        run.accept(fill);
        return fill;
    }

    /**
     * Every winding of the plane after a run. Each height has an object of its own,
     * because nothing is promised of an object after its 512th call.
     */
    static String windings(Consumer<PolygonFill> run) {
        StringBuilder text = new StringBuilder();
        for (int y = 0; y <= 64; y++) {
            PolygonFill fill = after(run);
            for (int x = 0; x <= 64; x++) {
                text.append(fill.winding(x, y)).append(' ');
            }
        }
        return text.toString();
    }

    /** Every colour of the raster after a run. */
    static String pixels(Consumer<PolygonFill> run) {
        PolygonFill fill = after(run);
        StringBuilder text = new StringBuilder();
        for (int row = 0; row < 16; row++) {
            for (int column = 0; column < 16; column++) {
                text.append(fill.pixel(row, column)).append(' ');
            }
        }
        return text.toString();
    }
}
