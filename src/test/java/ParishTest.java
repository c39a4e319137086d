/** Promises 19 to 24: lines of fields, the one that is done first, yields, told rows, lacking joins. */
public final class ParishTest {
    private static final long BEYOND = -1000000001L;
    private static final long NONE = -1000000004L;
    private static final int ALL = 0xFFFF;
    private static final int STONES = 0;
    private static final int WET = 4;
    private static final int WORTH = 5;
    private static int wrong = 0;

    private static void due(String call, long got, long want) {
        if (got != want) {
            wrong++;
            System.out.println(call + " answered " + got + ", due is " + want);
        }
    }

    /** Fields whose earth is a straight row of so many cells each (so that hours are cells), all joined or none. */
    private static OneFurrow fields(boolean allJoined, int... cells) {
        OneFurrow x = new OneFurrow();
        x.team(0, 1);
        for (int i = 0; i < cells.length; i++) {
            x.field();
            x.set(i, STONES, ALL & ~((1 << cells[i]) - 1));
        }
        for (int i = 0; allJoined && i < cells.length; i++) {
            for (int j = 0; j < cells.length; j++) {
                if (i != j) {
                    x.join(i, j, true);
                }
            }
        }
        return x;
    }

    public static void main(String[] args) {
        lines();
        lateByDays();
        lateByWet();
        lateNone();
        done();
        yields();
        yieldAtLeastNothing();
        row();
        rowBeyond();
        lacks();
        lacksNone();
        System.out.println(wrong == 0 ? "all answers are as due" : wrong + " answers are not as due");
        if (wrong != 0) {
            System.exit(1);
        }
    }

    private static void lines() {
        OneFurrow x = fields(true, 1, 1, 1, 1, 1, 1);
        due("19: all joined", x.lines(0), 720);
        x.set(5, STONES, ALL);
        due("19: one without a furrow", x.lines(0), 0);
        x = fields(false, 1, 1, 1);
        due("19: none joined", x.lines(0), 0);
        x.join(0, 1, true);
        x.join(1, 2, true);
        due("19: one way", x.lines(0), 1);
        x.join(2, 0, true);
        due("19: round", x.lines(0), 3);
        due("19: one field", fields(false, 3).lines(0), 1);
        due("19: no field", fields(false).lines(0), 0);
        due("19: lines(1)", x.lines(1), BEYOND);
        due("19: lines(-1)", x.lines(-1), BEYOND);
        x.set(0, STONES, ALL & ~0b100011);
        x.team(1, 1);
        x.team(2, 1);
        x.set(0, 2, 0);
        due("19: RIGHT can plough it", x.lines(2), 3);
        due("19: LEFT can't", x.lines(1), 0);
    }

    private static void lateByDays() {
        OneFurrow x = fields(true, 4, 4);
        due("20: 8 hours are one day", x.late(0, -1), 0);
        due("20: the first by numbers", x.late(0, 0), 0);
        x.pace(0, 2);
        due("20: 16 hours", x.late(0, -1), 1);
        x = fields(true, 4, 4, 1);
        due("20: the 9th hour is on the next day", x.late(0, -1), 1);
        due("20: late(0, 0)", x.late(0, 0), 0);
        due("20: late(0, 1)", x.late(0, 1), 1);
        due("20: late(0, 2)", x.late(0, 2), 2);
        due("20: late(0, 3)", x.late(0, 3), NONE);
        due("20: late(0, 5)", x.late(0, 5), NONE);
        due("20: late(0, 6)", x.late(0, 6), BEYOND);
        due("20: late(0, -3)", x.late(0, -3), BEYOND);
        due("20: late(1, 0)", x.late(1, 0), BEYOND);
        due("20: late(-1, 0)", x.late(-1, 0), BEYOND);
        due("20: YIELD", x.late(0, -2), 100 + 100 + 97);
        x.join(0, 1, false);
        due("20: 0 2 1", x.late(0, 1), 2);
    }

    private static void lateByWet() {
        OneFurrow x = fields(true, 4, 4, 4);
        x.pace(0, 2);
        x.set(0, WET, 3);
        due("20: the wet one waits", x.late(0, -1), 3);
        due("20: ahead of it the others", x.late(0, 0), 1);
        due("20: in their order", x.late(0, 1), 2);
        due("20: the wet one last", x.late(0, 2), 0);
        x.pace(0, 1);
        x.set(0, WET, 1);
        due("20: with room for another on its day, by days, not hours", x.late(0, 0), 1);
        due("20: of several rows the first", x.late(0, 1), 0);
        due("20: the other behind it", x.late(0, 2), 2);
        due("20: both on one day", x.late(0, -1), 1);
        x.set(2, WET, 0);
        x.set(0, WET, 99);
        due("20: the latest wet", x.late(0, -1), 99);
        x = fields(false, 4, 4);
        x.join(0, 1, true);
        x.set(0, WET, 2);
        x.set(1, WET, 1);
        due("20: what was wet is dry by then", x.late(0, -1), 2);
        due("20: YIELD", x.late(0, -2), 94 + 94);
    }

    private static void lateNone() {
        OneFurrow x = fields(false, 1, 1);
        due("20: no line", x.late(0, -1), NONE);
        due("20: no line, yield", x.late(0, -2), NONE);
        due("20: no line, field", x.late(0, 0), NONE);
        due("20: no field", fields(false).late(0, -1), NONE);
        due("20: BEYOND ahead of NONE", x.late(0, 6), BEYOND);
    }

    private static void done() {
        OneFurrow x = fields(false, 4, 4, 4);
        x.join(2, 0, true);
        x.join(0, 1, true);
        x.pace(0, 2);
        due("21: the first", x.done(0, 2), 0);
        due("21: the second", x.done(0, 0), 1);
        due("21: the last", x.done(0, 1), 2);
        due("21: late is as the last", x.late(0, -1), 2);
        due("21: done(0, 3)", x.done(0, 3), BEYOND);
        due("21: done(0, -1)", x.done(0, -1), BEYOND);
        due("21: done(1, 0)", x.done(1, 0), BEYOND);
        due("21: done(-1, 0)", x.done(-1, 0), BEYOND);
        x.join(0, 1, false);
        due("21: no line", x.done(0, 0), NONE);
    }

    private static void yields() {
        OneFurrow x = fields(true, 4, 4);
        x.pace(0, 2);
        due("22: one on day 0, one on day 1", x.yields(0), 100 + 97);
        x.set(0, WET, 9);
        x.set(1, WET, 8);
        due("22: 1 ahead of 0", x.yields(0), 76 + 73);
        x.set(0, WET, 0);
        x.set(1, WET, 0);
        x.set(0, WORTH, 1);
        due("22: the one with worth first", x.yields(0), 100 + 0);
        due("22: LATE has another one's", x.late(0, -2), 1 + 97);
        due("22: yields(1)", x.yields(1), BEYOND);
        due("22: yields(-1)", x.yields(-1), BEYOND);
        x.join(0, 1, false);
        x.join(1, 0, false);
        due("22: no line", x.yields(0), NONE);
        due("22: no field", fields(false).yields(0), NONE);
    }

    private static void yieldAtLeastNothing() {
        OneFurrow x = fields(true, 1, 1);
        x.set(0, WET, 50);
        x.set(0, WORTH, 149);
        x.set(1, WET, 50);
        x.set(1, WORTH, 151);
        due("22: each is 0 at least", x.yields(0), 1);
        due("22: so is LATE's", x.late(0, -2), 1);
        x.set(1, WORTH, 0);
        due("22: a yield of 0 is no finding", x.yields(0), 0);
        due("22: a worth of 999", x.set(1, WORTH, 999), 0);
        due("22: it counts", x.yields(0), 849);
    }

    private static void row() {
        OneFurrow x = fields(false, 1, 1, 1);
        x.join(0, 1, true);
        x.join(1, 2, true);
        x.join(1, 0, true);
        due("23: 0 1 2", x.row(0, 8, 3), 3);
        due("23: 0 1 0", x.row(0, 6, 3), 2);
        due("23: 2", x.row(0, 2, 1), 1);
        due("23: 2 0", x.row(0, 12, 2), 1);
        due("23: 0 2 1", x.row(0, 13, 3), 1);
        due("23: 0 1", x.row(0, 1, 2), 2);
        due("23: 0 0 1", x.row(0, 1, 3), 1);
        due("23: none", x.row(0, 0, 0), 0);
        x.set(1, STONES, ALL);
        due("23: 1 can't be ploughed", x.row(0, 8, 3), 1);
        x.set(0, STONES, ALL);
        due("23: nor can 0", x.row(0, 8, 3), 0);
        OneFurrow all = fields(true, 1, 1, 1, 1, 1, 1);
        due("23: 5 4 3 2 1 0", all.row(0, 5 * 7776 + 4 * 1296 + 3 * 216 + 2 * 36 + 6, 6), 6);
        due("23: 5 5 5 5 5 5", all.row(0, 46655, 6), 1);
        due("23: no line is needed", fields(false, 1).row(0, 0, 1), 1);
    }

    private static void rowBeyond() {
        OneFurrow x = fields(true, 1, 1, 1, 1, 1);
        due("23: n -1", x.row(0, 0, -1), BEYOND);
        due("23: n 7", x.row(0, 0, 7), BEYOND);
        due("23: digits -1", x.row(0, -1, 2), BEYOND);
        due("23: digits -36", x.row(0, -36, 2), BEYOND);
        due("23: digits for none", x.row(0, 1, 0), BEYOND);
        due("23: digits below 0 for none", x.row(0, -1, 0), BEYOND);
        due("23: 6 to the n", x.row(0, 36, 2), BEYOND);
        due("23: the most digits", x.row(0, Integer.MAX_VALUE, 6), BEYOND);
        due("23: the least digits", x.row(0, Integer.MIN_VALUE, 6), BEYOND);
        due("23: field 5 isn't there", x.row(0, 5, 1), BEYOND);
        due("23: nor behind where it ends", x.row(0, 5, 3), BEYOND);
        due("23: team 1", x.row(1, 0, 1), BEYOND);
        due("23: team -1", x.row(-1, 0, 1), BEYOND);
        due("23: no fields, none told", fields(false).row(0, 0, 0), 0);
        due("23: no fields, one told", fields(false).row(0, 0, 1), BEYOND);
        due("23: status(0)", x.status(0), 13);
    }

    private static void lacks() {
        OneFurrow x = fields(false, 4, 4);
        due("24: 0 to 1 of two", x.lacks(0), 1);
        due("24: nothing changed", x.count(3), 0);
        x.join(0, 1, true);
        due("24: the other way is there, too", x.lacks(0), 10);
        x = fields(false, 4, 4, 4);
        x.join(0, 1, true);
        due("24: 1 to 2, as early as 2 to 0, is the least", x.lacks(0), 12);
        x.set(0, WET, 5);
        due("24: 2 ahead of the wet one is a day less", x.lacks(0), 20);
        x.set(1, WET, 9);
        x.pace(0, 2);
        due("24: the wet ones last", x.lacks(0), 20);
        x.join(2, 0, true);
        due("24: a line is there, what helps it more", x.lacks(0), 2);
    }

    private static void lacksNone() {
        OneFurrow x = fields(false, 1, 1, 1, 1);
        due("24: one join isn't enough", x.lacks(0), NONE);
        due("24: all are joined", fields(true, 1, 1, 1).lacks(0), NONE);
        due("24: one field", fields(false, 1).lacks(0), NONE);
        due("24: no field", fields(false).lacks(0), NONE);
        x = fields(false, 1, 1);
        x.set(1, STONES, ALL);
        due("24: one can't be ploughed", x.lacks(0), NONE);
        due("24: lacks(1)", x.lacks(1), BEYOND);
        due("24: lacks(-1)", x.lacks(-1), BEYOND);
    }
}
