/**
 * Many mixed runs of calls, each answer held against the model's: promises 1 to 14 together.
 * The runs come from a fixed row of numbers, so every run of the test is the same.
 */
public final class ModelTest {
    private static final int RUNS = 400;
    private static final int CALLS = 512;
    private static final int[] ODD_ONES = {
        -1, 0, 15, 16, 63, 64, 65, 255, 256, Integer.MIN_VALUE, Integer.MAX_VALUE, Integer.MAX_VALUE - 64};

    private static final Due due = new Due();
    private static long state;

    public static void main(String[] args) {
        for (int run = 1; run <= RUNS; run++) {
            state = run;
            // Few coordinates make corners, edges and samples meet; many make slants of all kinds.
            int step = run % 3 == 0 ? 8 : 1;
            mixedRun(run, step);
        }
        everyPointOfSomeShapes();
        due.end();
    }

    private static int next(int bound) {
        state = state * 6364136223846793005L + 1442695040888963407L;
        return (int) ((state >>> 33) % bound);
    }

    private static int mostly(int bound) {
        return next(25) == 0 ? ODD_ONES[next(ODD_ONES.length)] : next(bound);
    }

    private static int coordinate(int step) {
        int value = mostly(65);
        return value >= 0 && value <= 64 ? value / step * step : value;
    }

    private static void mixedRun(int run, int step) {
        PolygonFill fill = new PolygonFill();
        Model model = new Model();
        for (int call = 1; call <= CALLS; call++) {
            one(fill, model, step, "run " + run + ", call " + call + ": ");
        }
    }

    private static void one(PolygonFill fill, Model model, int step, String name) {
        int kind = next(40);
        if (kind < 10) {
            changeShape(fill, model, kind, step, name);
        } else if (kind < 16) {
            changeRest(fill, model, kind, name);
        } else {
            ask(fill, model, kind, name);
        }
    }

    private static void changeShape(PolygonFill fill, Model model, int kind, int step, String name) {
        int x = coordinate(step);
        int y = coordinate(step);
        String point = "(" + x + ", " + y + ")";
        if (kind < 3) {
            due.is(name + "begin" + point, fill.begin(x, y), model.begin(x, y));
        } else {
            due.is(name + "corner" + point, fill.corner(x, y), model.corner(x, y));
        }
    }

    private static void changeRest(PolygonFill fill, Model model, int kind, String name) {
        boolean odd = next(2) == 0;
        if (kind < 12) {
            int dx = mostly(9) - 4;
            int dy = mostly(9) - 4;
            due.is(name + "move(" + dx + ", " + dy + ")", fill.move(dx, dy), model.move(dx, dy));
        } else if (kind == 12) {
            fill.mirror();
            model.mirror();
        } else if (kind == 13 && next(3) == 0) {
            fill.clear();
            model.clear();
        } else if (kind == 14 && next(6) == 0) {
            int colour = mostly(256);
            due.is(name + "wipe(" + colour + ")", fill.wipe(colour), model.wipe(colour));
        } else {
            int colour = mostly(256);
            due.is(name + "paint(" + colour + ", " + odd + ")", fill.paint(colour, odd), model.paint(colour, odd));
        }
    }

    private static void ask(PolygonFill fill, Model model, int kind, String name) {
        boolean odd = next(2) == 0;
        int row = mostly(16);
        int column = mostly(16);
        String place = "(" + row + ", " + column;
        if (kind < 22) {
            due.is(name + "pixel" + place + ")", fill.pixel(row, column), model.pixel(row, column));
        } else if (kind < 28) {
            due.is(name + "coverage" + place + ", " + odd + ")",
                fill.coverage(row, column, odd), model.coverage(row, column, odd));
        } else if (kind < 30) {
            due.is(name + "area(" + odd + ")", fill.area(odd), model.area(odd));
        } else if (kind < 37) {
            int x = mostly(65);
            int y = mostly(65);
            due.is(name + "winding(" + x + ", " + y + ")", fill.winding(x, y), model.winding(x, y));
        } else {
            due.is(name + "rowSum(" + row + ")", fill.rowSum(row), model.rowSum(row));
        }
    }

    private static void everyPointOfSomeShapes() {
        for (int shape = 1; shape <= 20; shape++) {
            for (int y = -1; y <= 65; y++) {
                state = 1000 + shape;
                PolygonFill fill = new PolygonFill();
                Model model = new Model();
                for (int i = 0; i < 12; i++) {
                    changeShape(fill, model, i == 0 ? 0 : next(10), 1, "shape " + shape + ": ");
                }
                for (int x = -1; x <= 65; x++) {
                    due.is("shape " + shape + ": winding(" + x + ", " + y + ")", fill.winding(x, y), model.winding(x, y));
                }
            }
        }
    }
}
