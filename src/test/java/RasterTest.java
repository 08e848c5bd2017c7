import java.util.function.Consumer;

/** The raster and its colours: promises 1, 7, 8, 9 and 13. */
public final class RasterTest {
    private static final Due due = new Due();

    public static void main(String[] args) {
        promise1NewObjectIsEmpty();
        promise1ObjectsAreApart();
        promise7PaintCoversWholePixels();
        promise7PaintMixesByCoverage();
        promise7PaintRoundsDown();
        promise7PaintFollowsTheRule();
        promise7PaintCountsCoveredPixels();
        promise7PaintRefusesBadColours();
        promise8WipeColoursAll();
        promise8WipeRefusesBadColours();
        promise9PixelTellsRowAndColumn();
        promise9PixelRefusesBadPlaces();
        promise13RowSumAddsARow();
        promise13RowSumRefusesBadRows();
        due.end();
    }

    private static void promise1NewObjectIsEmpty() {
        PolygonFill fill = new PolygonFill();
        for (int row = 0; row < 16; row++) {
            for (int column = 0; column < 16; column++) {
                due.is("1: pixel(" + row + ", " + column + ")", fill.pixel(row, column), 0);
            }
            due.is("1: rowSum(" + row + ")", fill.rowSum(row), 0);
        }
        due.is("1: no corners", fill.move(0, 0), 0);
        due.is("1: no contour", fill.corner(0, 0), PolygonFill.FULL);
        due.is("1: no area", fill.area(false), 0);
        due.is("1: no odd area", fill.area(true), 0);
        due.is("1: paint of no shape", fill.paint(255, false), 0);
        due.is("1: paints nothing", fill.rowSum(0), 0);
        due.is("1: first contour", fill.begin(0, 0), 1);
    }

    private static void promise1ObjectsAreApart() {
        PolygonFill one = new PolygonFill();
        PolygonFill other = new PolygonFill();
        Shapes.rectangle(one, 0, 0, 64, 64);
        one.wipe(9);
        due.is("1: the other's shape", other.area(false), 0);
        due.is("1: the other's pixels", other.pixel(3, 3), 0);
        due.is("1: the other's contours", other.begin(1, 1), 1);
    }

    private static void promise7PaintCoversWholePixels() {
        PolygonFill fill = new PolygonFill();
        Shapes.rectangle(fill, 4, 8, 12, 20);
        due.is("7: two columns and three rows", fill.paint(255, false), 6);
        for (int row = 0; row < 7; row++) {
            for (int column = 0; column < 5; column++) {
                boolean in = row >= 2 && row < 5 && column >= 1 && column < 3;
                due.is("7: pixel(" + row + ", " + column + ")", fill.pixel(row, column), in ? 255 : 0);
            }
        }
        due.is("7: paint with the least colour", fill.paint(0, false), 6);
        due.is("7: pixel(2, 1) again", fill.pixel(2, 1), 0);
        due.is("7: the shape stays", fill.move(0, 0), 4);
    }

    private static void promise7PaintMixesByCoverage() {
        int[] right = {1, 2, 4};
        int[] bottom = {1, 2, 4};
        for (int i = 0; i < 3; i++) {
            for (int j = 0; j < 3; j++) {
                int covered = (i == 0 || j == 0) ? 0 : i * j;
                mixOnce(right[i], bottom[j], covered);
            }
        }
        // Three samples: the square less the corner that holds the sample (7, 7).
        PolygonFill fill = new PolygonFill();
        fill.wipe(40);
        Shapes.contour(fill, 4, 4, 8, 4, 8, 6, 6, 6, 6, 8, 4, 8);
        due.is("7: one pixel with three samples", fill.paint(200, false), 1);
        due.is("7: three quarters", fill.pixel(1, 1), (40 + 3 * 200) / 4);
    }

    /** Corners at 1 take in no sample of the pixel, at 2 the near ones, at 4 all of them. */
    private static void mixOnce(int right, int bottom, int covered) {
        PolygonFill fill = new PolygonFill();
        fill.wipe(100);
        Shapes.rectangle(fill, 20, 24, 20 + right, 24 + bottom);
        String name = "7: " + right + " by " + bottom;
        due.is(name + " count", fill.paint(21, false), covered > 0 ? 1 : 0);
        due.is(name + " pixel", fill.pixel(6, 5), (100 * (4 - covered) + 21 * covered) / 4);
        due.is(name + " pixel beside", fill.pixel(6, 6), 100);
        due.is(name + " pixel below", fill.pixel(7, 5), 100);
    }

    private static void promise7PaintRoundsDown() {
        PolygonFill fill = new PolygonFill();
        Shapes.rectangle(fill, 0, 0, 2, 2);
        int[] colours = {3, 255, 255, 255, 0, 0, 1, 2, 254};
        int[] after = {0, 63, 111, 147, 110, 82, 61, 46, 98};
        for (int i = 0; i < colours.length; i++) {
            due.is("7: quarter " + i, fill.paint(colours[i], false), 1);
            due.is("7: colour after quarter " + i, fill.pixel(0, 0), after[i]);
        }
        fill.wipe(255);
        fill.paint(254, false);
        due.is("7: 254.75 is 254", fill.pixel(0, 0), 254);
        fill.wipe(255);
        fill.paint(255, false);
        due.is("7: 255 stays", fill.pixel(0, 0), 255);
    }

    private static void promise7PaintFollowsTheRule() {
        PolygonFill fill = new PolygonFill();
        Shapes.rectangle(fill, 0, 0, 16, 16);
        Shapes.rectangle(fill, 8, 8, 24, 24);
        due.is("7: odd leaves the overlap out", fill.paint(80, true), 24);
        due.is("7: odd overlap", fill.pixel(2, 2), 0);
        due.is("7: odd first", fill.pixel(0, 0), 80);
        due.is("7: nonzero takes the overlap in", fill.paint(60, false), 28);
        due.is("7: nonzero overlap", fill.pixel(2, 2), 60);
        due.is("7: nonzero first", fill.pixel(0, 0), 60);
    }

    private static void promise7PaintCountsCoveredPixels() {
        PolygonFill whole = new PolygonFill();
        Shapes.rectangle(whole, 0, 0, 64, 64);
        due.is("7: the whole raster", whole.paint(1, true), 256);

        PolygonFill slim = new PolygonFill();
        Shapes.rectangle(slim, 0, 0, 2, 64);
        due.is("7: half covered pixels count", slim.paint(0, false), 16);
        due.is("7: so they do if no colour changes", slim.rowSum(0), 0);

        PolygonFill line = new PolygonFill();
        Shapes.contour(line, 0, 0, 64, 64);
        due.is("7: a contour of two corners covers nothing", line.paint(255, false), 0);

        PolygonFill dot = new PolygonFill();
        dot.begin(33, 33);
        due.is("7: a contour of one corner covers nothing", dot.paint(255, true), 0);
    }

    private static void promise7PaintRefusesBadColours() {
        Consumer<PolygonFill> before = f -> {
            Shapes.rectangle(f, 3, 3, 40, 50);
            f.paint(77, false);
        };
        Consumer<PolygonFill> after = f -> {
            before.accept(f);
            for (int bad : Shapes.NOT_COLOURS) {
                due.is("7: paint(" + bad + ", false)", f.paint(bad, false), PolygonFill.BAD_COLOUR);
                due.is("7: paint(" + bad + ", true)", f.paint(bad, true), PolygonFill.BAD_COLOUR);
            }
        };
        due.holds("7: a refused paint changes no pixel", Shapes.pixels(after).equals(Shapes.pixels(before)));
        due.is("7: nor the shape", Shapes.after(after).move(0, 0), 4);
        due.is("7: bad colour without a shape", new PolygonFill().paint(256, false), PolygonFill.BAD_COLOUR);
    }

    private static void promise8WipeColoursAll() {
        PolygonFill fill = new PolygonFill();
        Shapes.rectangle(fill, 3, 3, 40, 50);
        fill.paint(77, false);
        due.is("8: wipe(255)", fill.wipe(255), 0);
        for (int row = 0; row < 16; row++) {
            due.is("8: rowSum(" + row + ")", fill.rowSum(row), 255 * 16);
            for (int column = 0; column < 16; column++) {
                due.is("8: pixel(" + row + ", " + column + ")", fill.pixel(row, column), 255);
            }
        }
        due.is("8: wipe(0)", fill.wipe(0), 0);
        due.is("8: first row", fill.rowSum(0), 0);
        due.is("8: last row", fill.rowSum(15), 0);
        due.is("8: the shape stays", fill.move(0, 0), 4);
    }

    private static void promise8WipeRefusesBadColours() {
        PolygonFill fill = new PolygonFill();
        fill.wipe(12);
        for (int bad : Shapes.NOT_COLOURS) {
            due.is("8: wipe(" + bad + ")", fill.wipe(bad), PolygonFill.BAD_COLOUR);
        }
        for (int row = 0; row < 16; row++) {
            due.is("8: row " + row + " stays", fill.rowSum(row), 12 * 16);
        }
    }

    private static void promise9PixelTellsRowAndColumn() {
        PolygonFill fill = new PolygonFill();
        Shapes.rectangle(fill, 20, 36, 24, 40);
        fill.paint(50, false);
        due.is("9: row 9, column 5", fill.pixel(9, 5), 50);
        due.is("9: row 5, column 9", fill.pixel(5, 9), 0);
        fill.clear();
        Shapes.rectangle(fill, 0, 60, 4, 64);
        fill.paint(51, false);
        fill.move(60, -60);
        fill.paint(52, false);
        due.is("9: lower left", fill.pixel(15, 0), 51);
        due.is("9: upper right", fill.pixel(0, 15), 52);
        due.is("9: upper left", fill.pixel(0, 0), 0);
        due.is("9: lower right", fill.pixel(15, 15), 0);
        due.is("9: row 9, column 5 stays", fill.pixel(9, 5), 50);
        due.is("9: asked twice", fill.pixel(9, 5), 50);
    }

    private static void promise9PixelRefusesBadPlaces() {
        PolygonFill fill = new PolygonFill();
        fill.wipe(3);
        for (int bad : Shapes.NOT_PLACES) {
            due.is("9: pixel(" + bad + ", 0)", fill.pixel(bad, 0), PolygonFill.BAD_PIXEL);
            due.is("9: pixel(15, " + bad + ")", fill.pixel(15, bad), PolygonFill.BAD_PIXEL);
            due.is("9: pixel(1, " + bad + ")", fill.pixel(1, bad), PolygonFill.BAD_PIXEL);
            due.is("9: pixel(" + bad + ", " + bad + ")", fill.pixel(bad, bad), PolygonFill.BAD_PIXEL);
        }
    }

    private static void promise13RowSumAddsARow() {
        PolygonFill fill = new PolygonFill();
        Shapes.rectangle(fill, 0, 12, 4, 16);
        fill.paint(10, false);
        fill.move(60, 0);
        fill.paint(200, false);
        fill.move(-30, 0);
        fill.paint(100, false);
        due.is("13: both ends and two halves", fill.rowSum(3), 10 + 200 + 50 + 50);
        due.is("13: the row above", fill.rowSum(2), 0);
        due.is("13: the row below", fill.rowSum(4), 0);
        due.is("13: the shape plays no part", fill.move(0, 40), 4);
        due.is("13: after the move", fill.rowSum(3), 310);
        fill.wipe(255);
        due.is("13: the greatest sum", fill.rowSum(0), 4080);
        due.is("13: the last row", fill.rowSum(15), 4080);
    }

    private static void promise13RowSumRefusesBadRows() {
        PolygonFill fill = new PolygonFill();
        fill.wipe(3);
        for (int bad : Shapes.NOT_PLACES) {
            due.is("13: rowSum(" + bad + ")", fill.rowSum(bad), PolygonFill.BAD_PIXEL);
        }
    }
}
