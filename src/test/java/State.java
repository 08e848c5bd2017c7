import java.util.HashMap;
import java.util.LinkedHashMap;
import java.util.Map;
import java.util.function.Consumer;
import java.util.function.ToIntFunction;

/** What an object is like after a run of calls, as far as its public calls tell it. */
final class State {
    /** The states in which a call may find the shape: empty, in between, and full in each of the ways. */
    static final Map<String, Consumer<PolygonFill>> STATES = new LinkedHashMap<>();

    private static final Map<String, String> TEXTS = new HashMap<>();

    static {
        STATES.put("a new object", f -> { });
        STATES.put("one corner", f -> f.begin(30, 20));
        STATES.put("a painted shape", State::paintedShape);
        STATES.put("four contours", State::fourContours);
        STATES.put("twelve corners", State::twelveCorners);
        STATES.put("four contours and twelve corners", State::fourContoursTwelveCorners);
        STATES.put("a cleared shape", f -> {
            fourContoursTwelveCorners(f);
            f.clear();
        });
    }

    private State() {
    }

    static void paintedShape(PolygonFill fill) {
        Shapes.contour(fill, 3, 5, 60, 11, 41, 63, 20, 30);
        fill.paint(90, true);
        Shapes.contour(fill, 10, 8, 22, 50, 9, 33);
        fill.paint(17, false);
    }

    /** Full by its contours alone: eight corners. */
    static void fourContours(PolygonFill fill) {
        fill.begin(7, 50);
        Shapes.contour(fill, 50, 7, 55, 20);
        fill.begin(33, 33);
        Shapes.contour(fill, 10, 10, 40, 12, 44, 41, 12, 38);
        fill.paint(200, true);
    }

    /** Full by its corners alone: two contours. */
    static void twelveCorners(PolygonFill fill) {
        Shapes.contour(fill, 5, 5, 30, 9, 28, 31, 6, 29);
        Shapes.contour(fill, 20, 20, 40, 18, 58, 25, 59, 44, 50, 58, 35, 57, 25, 50, 18, 35);
        fill.paint(255, false);
    }

    /** Full in both ways. */
    static void fourContoursTwelveCorners(PolygonFill fill) {
        Shapes.contour(fill, 4, 4, 30, 6, 9, 29);
        Shapes.contour(fill, 60, 5, 58, 30, 35, 9);
        Shapes.contour(fill, 5, 60, 8, 35, 29, 57);
        Shapes.contour(fill, 32, 12, 52, 52, 12, 49);
        fill.paint(1, true);
    }

    /**
     * Pixels, windings as they are, mirrored and with two corners more, the counts up to the
     * limits, and how far the shape can move. Single corners tell nothing by their windings:
     * it is the mirrored shape, the corners added and the way to the borders that tell them.
     */
    static String of(Consumer<PolygonFill> run) {
        Consumer<PolygonFill> longer = run.andThen(f -> {
            f.corner(0, 64);
            f.corner(64, 3);
        });
        return "pixels " + pixels(run)
            + "windings " + Shapes.windings(run)
            + "mirrored " + Shapes.windings(run.andThen(PolygonFill::mirror))
            + "longer " + Shapes.windings(longer)
            + "counts " + counts(run)
            + "ways " + way(run, 1, 0) + way(run, -1, 0) + way(run, 0, 1) + way(run, 0, -1);
    }

    /** The raster after a run on a new object, and after the same run over many colours. */
    static String pixels(Consumer<PolygonFill> run) {
        return Shapes.pixels(run) + "over many colours " + Shapes.pixels(manyColours().andThen(run));
    }

    /** A call that is refused, or that only asks: its answer is due, and all is as before. */
    static void stays(Due due, String state, Consumer<PolygonFill> before,
            String call, ToIntFunction<PolygonFill> asked, int want) {
        due.is(state + ": " + call, asked.applyAsInt(Shapes.after(before)), want);
        due.holds(state + ": " + call + " changes nothing",
            of(before.andThen(asked::applyAsInt)).equals(of(before)));
    }

    static void staysInEveryState(Due due, String call, ToIntFunction<PolygonFill> asked, int want) {
        STATES.forEach((name, before) -> {
            due.is(name + ": " + call, asked.applyAsInt(Shapes.after(before)), want);
            String text = TEXTS.computeIfAbsent(name, n -> of(before));
            due.holds(name + ": " + call + " changes nothing",
                of(before.andThen(asked::applyAsInt)).equals(text));
        });
    }

    /** A raster in which a pixel that changes places with a neighbour is seen, and no shape. */
    private static Consumer<PolygonFill> manyColours() {
        return fill -> {
            Shapes.rectangle(fill, 0, 0, 4, 64);
            for (int column = 0; column < 16; column++) {
                fill.paint(255 - 15 * column, false);
                fill.move(4, 0);
            }
            fill.clear();
            Shapes.rectangle(fill, 0, 0, 64, 2);
            for (int row = 0; row < 16; row++) {
                fill.paint((row * 53 + 20) % 256, false);
                fill.move(0, 4);
            }
            fill.clear();
        };
    }

    private static String counts(Consumer<PolygonFill> run) {
        StringBuilder text = new StringBuilder();
        PolygonFill corners = Shapes.after(run);
        text.append(corners.move(0, 0)).append(' ');
        for (int i = 0; i < 14; i++) {
            text.append(corners.corner(1, 1)).append(' ');
        }
        PolygonFill contours = Shapes.after(run);
        for (int i = 0; i < 6; i++) {
            text.append(contours.begin(1, 1)).append(' ');
        }
        return text.toString();
    }

    /** The longest move in one direction that is taken; 65 if there is nothing to move. */
    private static String way(Consumer<PolygonFill> run, int dx, int dy) {
        PolygonFill fill = Shapes.after(run);
        int length = 65;
        while (length > 0 && fill.move(dx * length, dy * length) < 0) {
            length--;
        }
        return length + " ";
    }
}
