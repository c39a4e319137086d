/**
 * Promises 1 to 38: each sentence that names a boundary, quoted, with a test of its own.
 * (Each argument below, at and above its bounds, and what a refused call leaves, is in RefusedCallsTest.)
 */
public final class BoundariesOfPromisesTest {
    private static final long BEYOND = -1000000001L;
    private static final long FULL = -1000000002L;
    private static final long KIND = -1000000003L;
    private static final long NONE = -1000000004L;
    private static final long MISSING = -1000000006L;
    private static final long SIZE = -1000000007L;
    private static final int ALL = 0xFFFF;
    private static final int STONES = 0;
    private static final int TREES = 1;
    private static final int IN = 2;
    private static final int OUT = 3;
    private static final int WET = 4;
    private static final int WORTH = 5;
    private static final int TEAM = 0;
    private static final int LEFT = 1;
    private static final int RIGHT = 2;
    private static final int WIDE = 3;
    private static final int SHY = 4;
    private static final int SLOW = 5;
    private static String sentence = "";
    private static int wrong = 0;

    private static void sentence(int promise, String words) {
        sentence = promise + " \"" + words + "\": ";
    }

    private static void due(String call, long got, long want) {
        if (got != want) {
            wrong++;
            System.out.println(sentence + call + " answered " + got + ", due is " + want);
        }
    }

    public static void main(String[] args) {
        newObject();
        fields();
        marks();
        joins();
        teams();
        kinds();
        steps();
        best();
        furrows();
        stones();
        gates();
        whose();
        lines();
        late();
        yields();
        rows();
        lacks();
        tape();
        text();
        sheets();
        numbers();
        copies();
        lays();
        draws();
        reads();
        readsOut();
        images();
        counts();
        status();
        System.out.println(wrong == 0 ? "all answers are as due" : wrong + " answers are not as due");
        if (wrong != 0) {
            System.exit(1);
        }
    }

    private static int cells(int... cells) {
        int set = 0;
        for (int cell : cells) {
            set |= 1 << cell;
        }
        return set;
    }

    /** A field whose earth is just these cells, and a team of each kind with pace 1. */
    private static OneFurrow earth(int... cells) {
        OneFurrow x = new OneFurrow();
        x.field();
        x.set(0, STONES, ALL & ~cells(cells));
        for (int kind = 0; kind < 6; kind++) {
            x.team(kind, 1);
        }
        return x;
    }

    private static OneFurrow wholeField() {
        OneFurrow x = earth();
        x.set(0, STONES, 0);
        return x;
    }

    /** Fields of a straight row of so many cells each, joined not at all, and a TEAM of a pace. */
    private static OneFurrow apart(int pace, int... cells) {
        OneFurrow x = new OneFurrow();
        x.team(TEAM, pace);
        for (int i = 0; i < cells.length; i++) {
            x.field();
            x.set(i, STONES, ALL & ~((1 << cells[i]) - 1));
        }
        return x;
    }

    private static OneFurrow allJoined(int pace, int... cells) {
        OneFurrow x = apart(pace, cells);
        for (int from = 0; from < cells.length; from++) {
            for (int to = 0; to < cells.length; to++) {
                x.join(from, to, true);
            }
        }
        return x;
    }

    private static void fill(OneFurrow x, int s, int bits, long... numbers) {
        x.sheet(s, bits, numbers.length);
        for (int i = 0; i < numbers.length; i++) {
            x.write(s, i, numbers[i]);
        }
    }

    private static void dueNumbers(String call, OneFurrow x, int s, long... numbers) {
        for (int i = 0; i < numbers.length; i++) {
            due(call + ", number " + i, x.write(s, i, numbers[i]), numbers[i]);
        }
        due(call + ", no number more", x.write(s, numbers.length, 0), BEYOND);
    }

    private static void feed(OneFurrow x, String text) {
        for (int i = 0; i < text.length(); i++) {
            x.feed(text.charAt(i), 1);
        }
    }

    // ---- fields and teams

    private static void newObject() {
        sentence(1, "No FIELDS, TEAMS; THE TAPE is empty, no image is kept.");
        OneFurrow x = new OneFurrow();
        due("FIELDS", x.count(0), 0);
        due("TEAMS", x.count(1), 0);
        due("EARTH", x.count(2), 0);
        due("joins", x.count(3), 0);
        due("bytes of THE TAPE", x.count(4), 0);
        due("findings", x.status(-1), 0);
        due("tear()", x.tear(), 0);
        due("undo()", x.undo(), NONE);
        due("parish() of nothing", x.parish(), -1);
    }

    private static void fields() {
        sentence(2, "A new FIELD: its number. FULL.");
        OneFurrow x = new OneFurrow();
        x.image();
        for (int i = 0; i < 6; i++) {
            due("field()", x.field(), i);
        }
        due("a 7th", x.field(), FULL);
        due("an 8th", x.field(), FULL);
        due("there are six", x.count(0), 6);
        x.undo();
        due("room again", x.field(), 0);

        sentence(3, "what 0 STONES, 1 TREES, 2 IN, 3 OUT, 4 WET, 5 WORTH, 6 EARTH, 7 COLOURS. BEYOND.");
        x = new OneFurrow();
        due("no FIELD", x.of(0, 0), BEYOND);
        x.field();
        x.set(0, STONES, ALL & ~cells(0, 2));
        int[] due = {ALL & ~cells(0, 2), 0, -1, -1, 0, 100, cells(0, 2), 2};
        for (int what = 0; what < due.length; what++) {
            due("what " + what, x.of(0, what), due[what]);
        }
        due("what -1", x.of(0, -1), BEYOND);
        due("what 8", x.of(0, 8), BEYOND);
        due("FIELD 1", x.of(1, 0), BEYOND);
        due("FIELD -1", x.of(-1, 0), BEYOND);
    }

    private static void marks() {
        sentence(4, "STONES (what 0), TREES (1; sets both)");
        OneFurrow x = new OneFurrow();
        due("no FIELD", x.set(0, STONES, 0), BEYOND);
        x.field();
        for (int what = STONES; what <= TREES; what++) {
            due("all CELLS", x.set(0, what, 65535), 0);
            due("a 17th", x.set(0, what, 65536), BEYOND);
            due("a 17th with others", x.set(0, what, 65537), BEYOND);
            due("-1", x.set(0, what, -1), BEYOND);
            due("no CELLS", x.set(0, what, 0), 65535);
            due("none it is", x.of(0, what), 0);
        }

        sentence(4, "IN (2), OUT (3; -1 or a CELL)");
        for (int what = IN; what <= OUT; what++) {
            due("CELL 15", x.set(0, what, 15), -1);
            due("16", x.set(0, what, 16), BEYOND);
            due("-2", x.set(0, what, -2), BEYOND);
            due("none", x.set(0, what, -1), 15);
            due("none again", x.set(0, what, -1), -1);
        }

        sentence(4, "WET (4), WORTH (5) of a FIELD becomes v: what it was. BEYOND.");
        due("WET 99", x.set(0, WET, 99), 0);
        due("WET 100", x.set(0, WET, 100), BEYOND);
        due("WET -1", x.set(0, WET, -1), BEYOND);
        due("WET 0", x.set(0, WET, 0), 99);
        due("WORTH 999", x.set(0, WORTH, 999), 100);
        due("WORTH 1000", x.set(0, WORTH, 1000), BEYOND);
        due("WORTH -1", x.set(0, WORTH, -1), BEYOND);
        due("WORTH 0", x.set(0, WORTH, 0), 999);
        due("what 6", x.set(0, 6, 0), BEYOND);
        due("what -1", x.set(0, -1, 0), BEYOND);
        due("FIELD 1", x.set(1, STONES, 0), BEYOND);
    }

    private static void joins() {
        sentence(5, "1 if that is new, else 0");
        OneFurrow x = allJoined(1, 1, 1, 1, 1, 1, 1);
        due("the last join again", x.join(5, 4, true), 0);
        due("taken out", x.join(5, 4, false), 1);
        due("taken out again", x.join(5, 4, false), 0);
        due("the other way is there", x.join(4, 5, true), 0);
        due("it comes again", x.join(5, 4, true), 1);

        sentence(5, "BEYOND (also one and the same).");
        for (int field = 0; field < 6; field++) {
            due(field + " to itself", x.join(field, field, true), BEYOND);
            due(field + " not to itself", x.join(field, field, false), BEYOND);
        }
        due("to 6", x.join(0, 6, true), BEYOND);
        due("from 6", x.join(6, 0, true), BEYOND);
        due("to -1", x.join(0, -1, true), BEYOND);
        due("from -1", x.join(-1, 0, true), BEYOND);
        due("30 joins", x.count(3), 30);

        sentence(6, "To which FIELDS one is JOINED, as a set. BEYOND.");
        due("the first, to all others", x.joined(0), 0b111110);
        due("the last, to all others", x.joined(5), 0b011111);
        due("6", x.joined(6), BEYOND);
        due("-1", x.joined(-1), BEYOND);
        due("none", apart(1, 1).joined(0), 0);
    }

    private static void teams() {
        sentence(7, "A new TEAM: its number. BEYOND: kind, pace. FULL.");
        OneFurrow x = new OneFurrow();
        x.image();
        due("kind -1", x.team(-1, 1), BEYOND);
        due("kind 6", x.team(6, 1), BEYOND);
        due("pace 0", x.team(TEAM, 0), BEYOND);
        due("pace 10", x.team(TEAM, 10), BEYOND);
        due("none came", x.count(1), 0);
        due("the least of both", x.team(TEAM, 1), 0);
        due("the most of both", x.team(SLOW, 9), 1);
        for (int i = 2; i < 6; i++) {
            due("team(1, 1)", x.team(LEFT, 1), i);
        }
        due("a 7th", x.team(TEAM, 1), FULL);
        due("a 7th of kind 6", x.team(6, 1), BEYOND);
        due("a 7th with pace 0", x.team(TEAM, 0), BEYOND);
        x.undo();
        due("room again", x.team(TEAM, 1), 0);

        sentence(8, "what 0 KIND, 1 PACE, 2 DEAR. BEYOND.");
        x = new OneFurrow();
        due("no TEAM", x.teamOf(0, 0), BEYOND);
        x.team(SLOW, 9);
        due("KIND", x.teamOf(0, 0), 5);
        due("PACE", x.teamOf(0, 1), 9);
        due("DEAR", x.teamOf(0, 2), 6);
        due("what 3", x.teamOf(0, 3), BEYOND);
        due("what -1", x.teamOf(0, -1), BEYOND);
        due("TEAM 1", x.teamOf(1, 0), BEYOND);
        due("TEAM -1", x.teamOf(-1, 0), BEYOND);

        sentence(9, "PACE of a TEAM becomes v: what it was. BEYOND.");
        due("1", x.pace(0, 1), 9);
        due("9", x.pace(0, 9), 1);
        due("0", x.pace(0, 0), BEYOND);
        due("10", x.pace(0, 10), BEYOND);
        due("TEAM 1", x.pace(1, 1), BEYOND);
        due("TEAM -1", x.pace(-1, 1), BEYOND);
        due("it stays", x.teamOf(0, 1), 9);
    }

    private static void kinds() {
        sentence(10, "BEYOND: no such TEAM, kind.");
        OneFurrow x = wholeField();
        due("TEAM 6", x.as(6, TEAM), BEYOND);
        due("TEAM -1", x.as(-1, TEAM), BEYOND);
        due("kind 6", x.as(SLOW, 6), BEYOND);
        due("kind -1", x.as(TEAM, -1), BEYOND);

        sentence(10, "KIND: it isn't of that kind, nor of one under it.");
        due("SHY as LEFT", x.as(SHY, LEFT), 1);
        due("SHY as TEAM", x.as(SHY, TEAM), 1);
        due("SHY as SHY", x.as(SHY, SHY), 1);
        due("LEFT as SHY", x.as(LEFT, SHY), KIND);
        due("SHY as RIGHT", x.as(SHY, RIGHT), KIND);
        due("SLOW as WIDE", x.as(SLOW, WIDE), 6);
        due("SLOW as TEAM", x.as(SLOW, TEAM), 6);
        due("WIDE as SLOW", x.as(WIDE, SLOW), KIND);
        due("TEAM as SLOW", x.as(TEAM, SLOW), KIND);
    }

    private static void steps() {
        sentence(11, "behind a step in another one (-1: it begins)");
        OneFurrow x = wholeField();
        for (int kind = 0; kind < 6; kind++) {
            for (int direction = 0; direction < 4; direction++) {
                due("it begins, " + kind, x.may(kind, 0, 5, -1, direction, false), 1);
            }
        }
        x.set(0, TREES, cells(6));
        due("SHY begins with a step onto a CELL BESIDE a TREE", x.may(SHY, 0, 5, -1, 1, false), 0);

        sentence(11, "with a TURN right ahead of that or not: 1, 0.");
        due("WIDE, none", x.may(WIDE, 0, 5, 0, 1, false), 1);
        due("WIDE, one", x.may(WIDE, 0, 5, 0, 1, true), 0);
        due("WIDE, one, straight on", x.may(WIDE, 0, 5, 1, 1, true), 1);
        due("LEFT, one", x.may(LEFT, 0, 5, 0, 3, true), 1);

        sentence(11, "(STONES aren't asked.) BEYOND.");
        x.set(0, TREES, 0);
        x.set(0, STONES, ALL);
        due("onto a STONE", x.may(SHY, 0, 15, 3, 3, false), 1);
        x.set(0, TREES, ALL);
        due("onto a TREE, by TEAM", x.may(TEAM, 0, 0, 0, 0, false), 1);
        due("CELL -1", x.may(TEAM, 0, -1, 0, 0, false), BEYOND);
        due("CELL 16", x.may(TEAM, 0, 16, 0, 0, false), BEYOND);
        due("before -2", x.may(TEAM, 0, 0, -2, 0, false), BEYOND);
        due("before 4", x.may(TEAM, 0, 0, 4, 0, false), BEYOND);
        due("direction -1", x.may(TEAM, 0, 0, 0, -1, false), BEYOND);
        due("direction 4", x.may(TEAM, 0, 0, 0, 4, false), BEYOND);
        due("TEAM 6", x.may(6, 0, 0, 0, 0, false), BEYOND);
        due("FIELD 1", x.may(TEAM, 1, 0, 0, 0, false), BEYOND);
    }

    // ---- furrows

    private static void best() {
        sentence(12, "BEST: what -1 COST, -2 TURNS, i the i-th CELL (0 to 15). BEYOND.");
        OneFurrow x = wholeField();
        int[] row = {0, 1, 2, 3, 7, 6, 5, 4, 8, 9, 10, 11, 15, 14, 13, 12};
        for (int i = 0; i < 16; i++) {
            due("CELL " + i, x.best(TEAM, 0, i), row[i]);
        }
        due("COST", x.best(TEAM, 0, -1), 28);
        due("TURNS", x.best(TEAM, 0, -2), 6);
        due("what 16", x.best(TEAM, 0, 16), BEYOND);
        due("what -3", x.best(TEAM, 0, -3), BEYOND);
        due("TEAM 6", x.best(6, 0, 0), BEYOND);
        due("FIELD 1", x.best(TEAM, 1, 0), BEYOND);

        sentence(12, "NONE: there is no WHOLE FURROW, or it has no i-th.");
        x = earth(5);
        due("COST", x.best(TEAM, 0, -1), 1);
        due("TURNS", x.best(TEAM, 0, -2), 0);
        due("the only CELL", x.best(TEAM, 0, 0), 5);
        due("no other one", x.best(TEAM, 0, 1), NONE);
        due("no 15", x.best(TEAM, 0, 15), NONE);
        due("16 is BEYOND", x.best(TEAM, 0, 16), BEYOND);
        x.set(0, STONES, ALL);
        for (int what = -2; what < 16; what++) {
            due("no EARTH, what " + what, x.best(TEAM, 0, what), NONE);
        }
        x.set(0, STONES, ALL & ~cells(0, 2));
        for (int what = -2; what < 16; what++) {
            due("apart, what " + what, x.best(TEAM, 0, what), NONE);
        }
    }

    private static void furrows() {
        sentence(13, "How many WHOLE FURROWS there are. BEYOND.");
        due("all EARTH", wholeField().many(TEAM, 0), 552);
        due("no EARTH", earth().many(TEAM, 0), 0);
        due("one CELL", earth(0).many(SHY, 0), 1);
        due("none is WHOLE", earth(0, 2).many(TEAM, 0), 0);
        OneFurrow x = earth();
        due("TEAM 6", x.many(6, 0), BEYOND);
        due("TEAM -1", x.many(-1, 0), BEYOND);
        due("FIELD 1", x.many(0, 1), BEYOND);
        due("FIELD -1", x.many(0, -1), BEYOND);

        sentence(14, "BARRED by COLOURS. BEYOND.");
        due("no EARTH", x.barred(0), 0);
        due("FIELD 1", x.barred(1), BEYOND);
        due("FIELD -1", x.barred(-1), BEYOND);
        due("no FIELD", new OneFurrow().barred(0), BEYOND);

        sentence(15, "MISSED. BEYOND. NONE: there is no FURROW at all.");
        due("no EARTH", x.missed(TEAM, 0), NONE);
        due("TEAM 6", x.missed(6, 0), BEYOND);
        due("FIELD 1", x.missed(0, 1), BEYOND);
        x = earth(0, 1, 3);
        due("not WHOLE", x.missed(TEAM, 0), 1);
        x.set(0, IN, 3);
        due("IN alone", x.missed(TEAM, 0), 2);
        x.set(0, OUT, 0);
        due("OUT isn't come to", x.missed(TEAM, 0), NONE);
        x.set(0, OUT, 3);
        due("IN is OUT", x.missed(TEAM, 0), 2);
        x.set(0, OUT, 2);
        due("OUT is no EARTH", x.missed(TEAM, 0), NONE);
        x.set(0, OUT, -1);
        x.set(0, IN, 2);
        due("IN is no EARTH", x.missed(TEAM, 0), NONE);
    }

    private static void stones() {
        sentence(16, "The STONE without which BEST costs least; of several the least CELL.");
        due("all are STONES", earth().stone(TEAM, 0), 0);
        OneFurrow x = earth();
        x.set(0, STONES, cells(15));
        x.set(0, TREES, ALL & ~cells(15));
        due("the last CELL", x.stone(TEAM, 0), 15);
        due("straight on, not about a corner", earth(4, 5).stone(TEAM, 0), 6);
        due("it stays a STONE", x.of(0, STONES), cells(15));
        x = earth(0, 1, 6);
        x.set(0, IN, 0);
        due("right behind another TEAM: by TEAM", x.stone(TEAM, 0), 2);
        due("right behind another TEAM: by LEFT", x.stone(LEFT, 0), NONE);
        due("right behind another TEAM: by RIGHT", x.stone(RIGHT, 0), 2);

        sentence(16, "NONE: there is none without which there is a WHOLE FURROW.");
        due("no STONES", wholeField().stone(TEAM, 0), NONE);
        due("none lets it be", earth(0, 3).stone(TEAM, 0), NONE);
        x = earth(0);
        x.set(0, STONES, cells(2, 8));
        x.set(0, TREES, ALL & ~cells(0, 2, 8));
        due("a WHOLE FURROW as it is, none without a STONE", x.stone(TEAM, 0), NONE);
        due("as it is", x.many(TEAM, 0), 1);
        due("TEAM 6", x.stone(6, 0), BEYOND);
        due("FIELD 1", x.stone(TEAM, 1), BEYOND);
    }

    private static void gates() {
        sentence(17, "Where IN (what 2) or OUT (3) would have to be that BEST costs least; of several the least CELL.");
        OneFurrow x = earth(0, 1, 2, 3);
        due("IN, of both ends the least", x.gate(TEAM, 0, IN), 0);
        due("OUT, of both ends the least", x.gate(TEAM, 0, OUT), 0);
        x.set(0, IN, 0);
        due("OUT for IN 0", x.gate(TEAM, 0, OUT), 3);
        due("IN is not asked for itself", x.gate(TEAM, 0, IN), 0);
        x.set(0, OUT, 0);
        due("IN for OUT 0", x.gate(TEAM, 0, IN), 3);
        due("IN stays", x.of(0, IN), 0);
        due("one CELL", earth(15).gate(TEAM, 0, IN), 15);
        x = earth(0, 1, 4, 5, 8, 9);
        x.set(0, IN, 0);
        due("1 is cheaper than 9", x.gate(TEAM, 0, OUT), 1);
        x.set(0, IN, 1);
        due("right behind another TEAM: by TEAM", x.gate(TEAM, 0, OUT), 0);
        due("right behind another TEAM: by RIGHT", x.gate(RIGHT, 0, OUT), 0);
        due("right behind another TEAM: by LEFT", x.gate(LEFT, 0, OUT), 5);
        x.set(0, IN, 0);

        sentence(17, "BEYOND. NONE.");
        due("what 1", x.gate(TEAM, 0, 1), BEYOND);
        due("what 4", x.gate(TEAM, 0, 4), BEYOND);
        due("TEAM 6", x.gate(6, 0, IN), BEYOND);
        due("FIELD 1", x.gate(TEAM, 1, IN), BEYOND);
        due("no EARTH", earth().gate(TEAM, 0, IN), NONE);
        due("no EARTH", earth().gate(TEAM, 0, OUT), NONE);
        due("apart", earth(0, 2).gate(TEAM, 0, OUT), NONE);
        x.set(0, IN, 15);
        due("IN is no EARTH", x.gate(TEAM, 0, OUT), NONE);
        due("another IN would do", x.gate(TEAM, 0, IN), 0);
    }

    private static void whose() {
        sentence(18, "The TEAM whose BEST costs least in a FIELD; of several the least. BEYOND. NONE.");
        OneFurrow x = new OneFurrow();
        due("no FIELD", x.whose(0), BEYOND);
        x.field();
        due("no TEAM", x.whose(0), NONE);
        x.team(TEAM, 3);
        x.team(TEAM, 2);
        x.team(TEAM, 2);
        due("of two alike the first", x.whose(0), 1);
        x.pace(0, 1);
        due("TEAM 0", x.whose(0), 0);
        x.pace(0, 2);
        due("of three alike the first", x.whose(0), 0);
        x.pace(0, 3);
        for (int i = 0; i < 3; i++) {
            x.team(LEFT, 1);
        }
        due("a cheaper one", x.whose(0), 3);
        x.set(0, STONES, ALL & ~cells(0, 1, 5, 6));
        due("LEFT has none", x.whose(0), 1);
        x.set(0, STONES, ALL);
        due("none has one", x.whose(0), NONE);
        due("FIELD 1", x.whose(1), BEYOND);
        due("FIELD -1", x.whose(-1), BEYOND);
    }

    // ---- the parish

    private static void lines() {
        sentence(19, "How many LINES of a TEAM there are. BEYOND. (Without FIELDS: 0.)");
        due("without FIELDS", apart(1).lines(0), 0);
        due("one FIELD", apart(1, 1).lines(0), 1);
        due("two apart", apart(1, 1, 1).lines(0), 0);
        due("all six joined", allJoined(1, 1, 1, 1, 1, 1, 1).lines(0), 720);
        OneFurrow x = apart(1, 1);
        due("TEAM 1", x.lines(1), BEYOND);
        due("TEAM -1", x.lines(-1), BEYOND);
        x.set(0, STONES, ALL);
        due("no WHOLE FURROW", x.lines(0), 0);
    }

    private static void late() {
        sentence(20, "what -1 on which DAY the last FIELD is DONE, -2 YIELD, i the i-th FIELD (0 to 5). BEYOND.");
        OneFurrow x = apart(1, 4, 4, 4, 4, 4, 4);
        for (int i = 5; i > 0; i--) {
            x.join(i, i - 1, true);
        }
        due("24 HOURS", x.late(0, -1), 2);
        due("YIELD", x.late(0, -2), 2 * 100 + 2 * 97 + 2 * 94);
        for (int i = 0; i < 6; i++) {
            due("FIELD " + i, x.late(0, i), 5 - i);
        }
        due("what 6", x.late(0, 6), BEYOND);
        due("what -3", x.late(0, -3), BEYOND);
        due("TEAM 1", x.late(1, 0), BEYOND);

        sentence(20, "NONE: there is no LINE, or it has no i-th.");
        x.join(1, 0, false);
        for (int what = -2; what < 6; what++) {
            due("no LINE, what " + what, x.late(0, what), NONE);
        }
        x = apart(1, 4);
        due("the only FIELD", x.late(0, 0), 0);
        for (int i = 1; i < 6; i++) {
            due("no FIELD " + i, x.late(0, i), NONE);
        }
        due("6 is BEYOND", x.late(0, 6), BEYOND);
        due("without FIELDS", apart(1).late(0, -1), NONE);

        sentence(21, "DONE of a FIELD in the row of LATE. BEYOND. NONE.");
        x = apart(2, 4, 4);
        due("no LINE", x.done(0, 0), NONE);
        x.join(1, 0, true);
        due("the first", x.done(0, 1), 0);
        due("the last", x.done(0, 0), 1);
        due("FIELD 2", x.done(0, 2), BEYOND);
        due("FIELD -1", x.done(0, -1), BEYOND);
        due("TEAM 1", x.done(1, 0), BEYOND);
        due("without FIELDS", apart(1).done(0, 0), BEYOND);
    }

    private static void yields() {
        sentence(22, "The greatest YIELD of a LINE. BEYOND. NONE: there is none.");
        OneFurrow x = allJoined(2, 4, 4);
        x.set(0, WORTH, 2);
        due("2 is lost, not 3", x.yields(0), 100);
        due("LATE's is less", x.late(0, -2), 99);
        x.set(0, WORTH, 3);
        due("both alike", x.yields(0), 100);
        x.set(0, WORTH, 0);
        x.set(1, WORTH, 0);
        due("0 is a YIELD", x.yields(0), 0);
        x.set(0, WORTH, 100);
        due("the first row's, 0 behind it", x.yields(0), 100);
        x.set(0, WORTH, 50);
        due("less than it was", x.yields(0), 50);
        due("TEAM 1", x.yields(1), BEYOND);
        due("TEAM -1", x.yields(-1), BEYOND);
        due("no LINE", apart(1, 1, 1).yields(0), NONE);
        due("without FIELDS", apart(1).yields(0), NONE);
    }

    private static void rows() {
        sentence(23, "(n FIELDS, 0 to 6, as a number by 6, the first the highest place)");
        OneFurrow x = allJoined(1, 1, 1, 1, 1, 1, 1);
        due("none", x.row(0, 0, 0), 0);
        due("0", x.row(0, 0, 1), 1);
        due("5", x.row(0, 5, 1), 1);
        due("0 1 2 3 4 5", x.row(0, 1296 + 2 * 216 + 3 * 36 + 4 * 6 + 5, 6), 6);
        due("5 4 3 2 1 0", x.row(0, 5 * 7776 + 4 * 1296 + 3 * 216 + 2 * 36 + 6, 6), 6);
        due("n -1", x.row(0, 0, -1), BEYOND);
        due("n 7", x.row(0, 0, 7), BEYOND);

        sentence(23, "how many FIELDS from the first on are each JOINED from the one ahead, weren't there ahead, and have a WHOLE FURROW");
        due("there at once again", x.row(0, 46655, 6), 1);
        due("there again at last", x.row(0, 6, 3), 2);
        for (int field = 0; field < 6; field++) {
            int other = (field + 1) % 6;
            due(field + " again", x.row(0, 36 * field + 6 * other + field, 3), 2);
            due(field + " at once again", x.row(0, 6 * field + field, 2), 1);
        }
        x.join(0, 1, false);
        due("not JOINED", x.row(0, 1, 2), 1);
        due("JOINED the other way", x.row(0, 6, 2), 2);
        x.set(0, STONES, ALL);
        due("the first has none", x.row(0, 1, 2), 0);
        due("the last has none", x.row(0, 6, 2), 1);

        sentence(23, "BEYOND: team, n, digits (below 0, 6 to the n and more, FIELDS that aren't there).");
        due("TEAM 1", x.row(1, 0, 0), BEYOND);
        due("TEAM -1", x.row(-1, 0, 0), BEYOND);
        due("-1", x.row(0, -1, 1), BEYOND);
        due("-6 by 1", x.row(0, -6, 1), BEYOND);
        int power = 1;
        for (int n = 0; n <= 6; n++) {
            due("6 to the " + n + " less 1", x.row(0, power - 1, n) >= 0 ? 1 : 0, 1);
            due("6 to the " + n, x.row(0, power, n), BEYOND);
            due("-1 for " + n, x.row(0, -1, n), BEYOND);
            power *= 6;
        }
        due("as much as can be", x.row(0, Integer.MAX_VALUE, 6), BEYOND);
        due("as little as can be", x.row(0, Integer.MIN_VALUE, 6), BEYOND);
        x = apart(1, 1, 1);
        due("the last place of one that isn't there", x.row(0, 2, 2), BEYOND);
        due("the first place of one that isn't there", x.row(0, 12, 2), BEYOND);
        due("behind where it ends", x.row(0, 2, 3), BEYOND);
    }

    private static void lacks() {
        sentence(24, "From which two unlike FIELDS, as 10 times the one and the other, a join more (that there isn't)");
        OneFurrow x = apart(1, 1, 1, 1, 1, 1, 1);
        for (int i = 5; i > 1; i--) {
            x.join(i, i - 1, true);
        }
        due("0 ahead of the first of them", x.lacks(0), 5);
        x.join(0, 5, true);
        x.set(5, WET, 9);
        x.join(5, 4, false);
        due("the others ahead of 0 and 5", x.lacks(0), 10);
        due("nothing is joined by it", x.count(3), 4);

        sentence(24, "would make the last FIELD DONE first by LATE; of several the least. BEYOND.");
        x = apart(8, 1, 1, 1);
        x.join(0, 1, true);
        due("1 to 2 and 2 to 0 alike", x.lacks(0), 12);
        x.set(0, WET, 5);
        due("2 to 0 by a DAY", x.lacks(0), 20);
        x.join(1, 2, true);
        due("a LINE is there: 2 to 0 yet", x.lacks(0), 20);
        due("TEAM 1", x.lacks(1), BEYOND);
        due("TEAM -1", x.lacks(-1), BEYOND);

        sentence(24, "NONE: none lets a LINE be.");
        due("one join isn't enough", apart(1, 1, 1, 1).lacks(0), NONE);
        due("all are there", allJoined(1, 1, 1).lacks(0), NONE);
        due("one FIELD", apart(1, 1).lacks(0), NONE);
        due("without FIELDS", apart(1).lacks(0), NONE);
        x = apart(1, 1, 1);
        x.set(0, STONES, ALL);
        due("one has no WHOLE FURROW", x.lacks(0), NONE);
    }

    // ---- the text

    private static void tape() {
        sentence(25, "THE TAPE gets the n lowest bytes of a number behind it, the highest of these first (n 1 to 4)");
        OneFurrow x = new OneFurrow();
        due("4 bytes", x.feed('t' << 24 | 'e' << 16 | 'a' << 8 | 'm', 4), 4);
        due("1 byte of 4", x.feed(-1 << 8 | ';', 1), 5);
        due("3 bytes of 4", x.feed(-1 << 24 | 's' << 16 | 'h' << 8 | 'y', 3), 8);
        due("2 bytes of 4", x.feed('x' << 24 | 'x' << 16 | ' ' << 8 | ' ', 2), 10);
        due("team;shy", x.parish(), 2);
        due("shy", x.teamOf(1, 0), SHY);
        due("n 0", x.feed(0, 0), BEYOND);
        due("n 5", x.feed(0, 5), BEYOND);
        due("n -1", x.feed(0, -1), BEYOND);
        due("none came", x.count(4), 0);
        due("bytes of 255", x.feed(-1, 4), 4);
        due("they begin no TOKEN", x.parish(), -1);

        sentence(25, "how many it has. BEYOND: n. FULL.");
        for (int i = 1; i <= 29; i++) {
            due("4 more", x.feed(0x20202020, 4), 4 * i);
        }
        due("118", x.feed(0x2020, 2), 118);
        due("3 are too many", x.feed(0x202020, 3), FULL);
        due("4 are too many", x.feed(0x20202020, 4), FULL);
        due("2 aren't", x.feed(0x2020, 2), 120);
        due("1 is too many", x.feed(0x20, 1), FULL);
        due("n 5 is BEYOND", x.feed(0, 5), BEYOND);

        sentence(26, "THE TAPE is empty: how many it had.");
        due("120", x.wipe(), 120);
        due("0", x.wipe(), 0);
        due("empty", x.count(4), 0);
        due("room for 4", x.feed(0, 4), 4);
    }

    private static void text() {
        sentence(27, "THE TAPE is THE TEXT of a PARISH, whose ITEMS come to what there is, and empty then: how many ITEMS.");
        OneFurrow x = new OneFurrow();
        x.field();
        x.team(LEFT, 9);
        feed(x, "right; field; join 1 0; join 0 1");
        due("four", x.parish(), 4);
        due("empty", x.count(4), 0);
        due("FIELDS", x.count(0), 2);
        due("TEAMS", x.count(1), 2);
        due("joins", x.count(3), 2);
        due("the TEAM that was there", x.teamOf(0, 1), 9);

        sentence(27, "With a FAULT: -1 less its place (nothing changes but that THE TAPE is empty; no finding).");
        feed(x, "");
        due("no byte", x.parish(), -1);
        feed(x, "x");
        due("place 0", x.parish(), -1);
        feed(x, "field;team;field x");
        due("place 17", x.parish(), -18);
        due("empty", x.count(4), 0);
        feed(x, " ".repeat(119) + "#");
        due("place 119", x.parish(), -120);
        feed(x, " ".repeat(120));
        due("it ends too early", x.parish(), -121);
        due("no FIELD came", x.count(0), 2);
        due("no TEAM came", x.count(1), 2);
        due("no finding", x.status(-1), 0);
        due("a FIELD behind it is new", x.field(), 2);
        due("all EARTH", x.of(2, 6), ALL);
    }

    // ---- sheets

    private static void sheets() {
        sentence(28, "A sheet has n numbers, all 0, of 8, 16 or 64 bits; bits 0: it is MISSING: n (0 if it is MISSING).");
        OneFurrow x = new OneFurrow();
        for (int bits : new int[] {8, 16, 64}) {
            due("40 numbers", x.sheet(3, bits, 40), 40);
            for (int i = 0; i < 40; i++) {
                due("number " + i, x.write(3, i, -1), 0);
            }
            due("no numbers", x.sheet(3, bits, 0), 0);
            due("they aren't there", x.write(3, 0, 0), BEYOND);
        }
        due("MISSING, n 40", x.sheet(3, 0, 40), 0);
        due("it is", x.write(3, 0, 0), MISSING);
        due("40 again", x.sheet(3, 8, 40), 40);
        due("0 again", x.write(3, 39, 0), 0);

        sentence(28, "BEYOND: no such sheet, other bits. SIZE: n is below 0 (also with bits 0). BEYOND: n is above 40 (also with bits 0).");
        due("sheet 4", x.sheet(4, 8, 1), BEYOND);
        due("sheet -1", x.sheet(-1, 8, 1), BEYOND);
        for (int bits : new int[] {-8, -1, 1, 7, 9, 15, 17, 32, 63, 65, 128}) {
            due("bits " + bits, x.sheet(0, bits, 1), BEYOND);
            due("bits " + bits + ", n -1", x.sheet(0, bits, -1), BEYOND);
        }
        for (int bits : new int[] {0, 8, 16, 64}) {
            due("n -1", x.sheet(0, bits, -1), SIZE);
            due("n 41", x.sheet(0, bits, 41), BEYOND);
            due("n as little as can be", x.sheet(0, bits, Integer.MIN_VALUE), SIZE);
            due("n as much as can be", x.sheet(0, bits, Integer.MAX_VALUE), BEYOND);
            due("sheet 4, n -1", x.sheet(4, bits, -1), BEYOND);
        }
        due("it stays MISSING", x.write(0, 0, 0), MISSING);
        due("n 41 with bits 0", x.sheet(3, 0, 41), BEYOND);
        due("the other isn't MISSING by that", x.write(3, 39, 0), 0);
    }

    private static void numbers() {
        sentence(29, "Number i of a sheet becomes v (its lowest bits): what it was.");
        OneFurrow x = new OneFurrow();
        fill(x, 0, 8, 127, 128, 255, 256, -128, -129, Long.MAX_VALUE, Long.MIN_VALUE, 1L << 32 | 5);
        dueNumbers("8 bits", x, 0, 127, -128, -1, 0, -128, 127, -1, 0, 5);
        fill(x, 1, 16, 32767, 32768, 65535, 65536, -32768, -32769, Long.MAX_VALUE, Long.MIN_VALUE, 1L << 32 | 500);
        dueNumbers("16 bits", x, 1, 32767, -32768, -1, 0, -32768, 32767, -1, 0, 500);
        fill(x, 2, 64, Long.MAX_VALUE, Long.MIN_VALUE, 1L << 32, -1);
        dueNumbers("64 bits", x, 2, Long.MAX_VALUE, Long.MIN_VALUE, 1L << 32, -1);

        sentence(29, "BEYOND: no such sheet. MISSING. BEYOND: no such number.");
        due("sheet 4", x.write(4, 0, 0), BEYOND);
        due("sheet -1", x.write(-1, 0, 0), BEYOND);
        due("MISSING", x.write(3, 0, 0), MISSING);
        due("MISSING, no number", x.write(3, -1, 0), MISSING);
        due("number -1", x.write(2, -1, 0), BEYOND);
        due("number 4 of 4", x.write(2, 4, 0), BEYOND);
    }

    private static void copies() {
        sentence(30, "n numbers of a sheet from one on come to another one from one on (as they all were): n.");
        OneFurrow x = new OneFurrow();
        fill(x, 0, 64, 1, 2, 3, 4);
        due("all but one, upwards", x.copy(0, 0, 0, 1, 3), 3);
        dueNumbers("upwards", x, 0, 1, 1, 2, 3);
        due("all but one, downwards", x.copy(0, 1, 0, 0, 3), 3);
        dueNumbers("downwards", x, 0, 1, 2, 3, 3);
        due("all onto themselves", x.copy(0, 0, 0, 0, 4), 4);
        due("none", x.copy(0, 0, 0, 0, 0), 0);
        due("none, at the end", x.copy(0, 4, 0, 4, 0), 0);
        x.sheet(1, 64, 2);
        due("the last two", x.copy(0, 2, 1, 0, 2), 2);
        dueNumbers("the last two", x, 1, 3, 3);
        dueNumbers("they stay", x, 0, 1, 2, 3, 3);

        sentence(30, "BEYOND: no such sheet (either). MISSING: one is. KIND: they are not of as many bits.");
        fill(x, 2, 8, 5);
        due("sheet 4", x.copy(4, 0, 0, 0, 0), BEYOND);
        due("to sheet 4", x.copy(0, 0, 4, 0, 0), BEYOND);
        due("sheet -1, to a MISSING one", x.copy(-1, 0, 3, 0, 0), BEYOND);
        due("a MISSING one, to sheet -1", x.copy(3, 0, -1, 0, 0), BEYOND);
        due("from a MISSING one", x.copy(3, 0, 0, 0, 0), MISSING);
        due("to a MISSING one", x.copy(0, 0, 3, 0, 0), MISSING);
        due("other bits, none of them", x.copy(0, 0, 2, 0, 0), KIND);

        sentence(30, "BEYOND: one has not so many, or from, to or n is below 0.");
        due("one too many of the first", x.copy(0, 3, 1, 0, 2), BEYOND);
        due("one too many of the other", x.copy(0, 0, 1, 1, 2), BEYOND);
        due("from -1", x.copy(0, -1, 1, 0, 1), BEYOND);
        due("to -1", x.copy(0, 0, 1, -1, 1), BEYOND);
        due("n -1", x.copy(0, 1, 1, 1, -1), BEYOND);
        due("from and n go round", x.copy(0, Integer.MAX_VALUE, 1, 0, 2), BEYOND);
        due("to and n go round", x.copy(0, 0, 1, 1, Integer.MAX_VALUE), BEYOND);
        dueNumbers("nothing came", x, 1, 3, 3);
    }

    private static void lays() {
        sentence(31, "1 a STONE, 2 a TREE, 0 EARTH (others, and those behind 15, are left out: these CELLS stay): how many came.");
        OneFurrow x = new OneFurrow();
        x.field();
        x.set(0, STONES, cells(3, 4, 5, 8));
        x.set(0, TREES, cells(3, 4, 6, 9));
        fill(x, 0, 8, 1, 2, 0, 3, -1, 0, 0, 258);
        due("3 and -1 don't come, 258 is 2", x.lays(0, 0), 6);
        due("STONES", x.of(0, STONES), cells(0, 3, 4, 8));
        due("TREES", x.of(0, TREES), cells(1, 3, 4, 7, 9));
        fill(x, 0, 64, 1L << 32, 1L << 32 | 2, Long.MIN_VALUE, Long.MAX_VALUE);
        due("large ones don't come", x.lays(0, 0), 0);
        due("STONES stay", x.of(0, STONES), cells(0, 3, 4, 8));
        x.sheet(0, 16, 40);
        for (int i = 15; i < 40; i++) {
            x.write(0, i, 1);
        }
        due("16 of 40", x.lays(0, 0), 16);
        due("the 16th is a STONE", x.of(0, STONES), cells(15));
        due("no TREES", x.of(0, TREES), 0);
        x.sheet(0, 16, 0);
        due("no numbers", x.lays(0, 0), 0);
        due("it stays", x.of(0, STONES), cells(15));

        sentence(31, "BEYOND: no such sheet. MISSING. BEYOND: no such FIELD.");
        due("sheet 4", x.lays(4, 0), BEYOND);
        due("sheet -1", x.lays(-1, 0), BEYOND);
        due("MISSING", x.lays(1, 0), MISSING);
        due("MISSING, no such FIELD", x.lays(1, 1), MISSING);
        due("FIELD 1", x.lays(0, 1), BEYOND);
        due("FIELD -1", x.lays(0, -1), BEYOND);
    }

    private static void draws() {
        sentence(32, "The CELLS of BEST come to a sheet, as far as it has numbers: how many.");
        OneFurrow x = earth(12, 13, 14, 15);
        fill(x, 0, 8, 9, 9, 9, 9, 9);
        due("one number more", x.draw(0, TEAM, 0), 4);
        dueNumbers("it stays", x, 0, 12, 13, 14, 15, 9);
        fill(x, 0, 8, 9, 9, 9);
        due("one number less", x.draw(0, TEAM, 0), 3);
        dueNumbers("the first three", x, 0, 12, 13, 14);
        fill(x, 0, 64, 9, 9, 9, 9);
        due("just as many", x.draw(0, TEAM, 0), 4);
        x.sheet(0, 16, 0);
        due("no numbers", x.draw(0, TEAM, 0), 0);

        sentence(32, "BEYOND: no such TEAM, FIELD. NONE: there is no WHOLE FURROW.");
        due("TEAM 6", x.draw(0, 6, 0), BEYOND);
        due("TEAM -1", x.draw(0, -1, 0), BEYOND);
        due("FIELD 1", x.draw(0, TEAM, 1), BEYOND);
        due("FIELD -1", x.draw(0, TEAM, -1), BEYOND);
        due("sheet 4", x.draw(4, TEAM, 0), BEYOND);
        due("sheet -1", x.draw(-1, TEAM, 0), BEYOND);
        due("MISSING", x.draw(1, TEAM, 0), MISSING);
        due("MISSING, TEAM 6", x.draw(1, 6, 0), MISSING);
        x.set(0, STONES, ALL);
        due("no EARTH, no numbers", x.draw(0, TEAM, 0), NONE);
        fill(x, 0, 8, 9);
        due("no EARTH", x.draw(0, TEAM, 0), NONE);
        dueNumbers("nothing came", x, 0, 9);
    }

    private static void dueRead(String call, OneFurrow x, int team, int want, long... numbers) {
        fill(x, 0, 64, numbers);
        due(call, x.read(0, team, 0), want);
    }

    private static void reads() {
        sentence(33, "numbers of a sheet are a WHOLE FURROW of a TEAM in a FIELD: 0, if so");
        OneFurrow x = earth(0, 1, 2, 6);
        dueRead("the one way", x, TEAM, 0, 0, 1, 2, 6);
        dueRead("the other way", x, TEAM, 0, 6, 2, 1, 0);
        dueRead("one CELL", earth(15), SHY, 0, 15);

        sentence(33, "1 and the place of the first that no FURROW goes on with (no CELL of EARTH, or there already");
        dueRead("-1", x, TEAM, 1, -1);
        dueRead("16", x, TEAM, 1, 16);
        dueRead("a large one", x, TEAM, 2, 0, 1L << 32 | 1);
        dueRead("a small one", x, TEAM, 2, 0, Long.MIN_VALUE | 1);
        dueRead("a STONE", x, TEAM, 2, 0, 4);
        dueRead("there already", x, TEAM, 3, 0, 1, 0);
        dueRead("one number too many", x, TEAM, 5, 0, 1, 2, 6, 2);
        long[] forty = new long[40];
        forty[1] = 1;
        dueRead("as many as can be", x, TEAM, 3, forty);
        dueRead("no EARTH", earth(), TEAM, 1, 0);

        sentence(33, "not BESIDE, not as the TEAM MAY, not IN at the beginning)");
        dueRead("not BESIDE", x, TEAM, 2, 0, 2);
        dueRead("BESIDE but for a row's end", earth(3, 4), TEAM, 2, 3, 4);
        dueRead("LEFT to the right", x, LEFT, 4, 0, 1, 2, 6);
        dueRead("RIGHT to the left", x, RIGHT, 3, 6, 2, 1, 0);
        dueRead("WIDE, TURN behind TURN", earth(0, 1, 5, 6), WIDE, 4, 0, 1, 5, 6);
        OneFurrow trees = earth(0, 1, 2);
        trees.set(0, TREES, cells(6));
        dueRead("SHY onto a CELL BESIDE a TREE", trees, SHY, 3, 0, 1, 2);
        dueRead("SHY from a CELL BESIDE a TREE", trees, SHY, 0, 2, 1, 0);
        x.set(0, IN, 6);
        dueRead("not IN", x, TEAM, 1, 0, 1, 2, 6);
        dueRead("IN", x, TEAM, 0, 6, 2, 1, 0);
        x.set(0, IN, 15);
        dueRead("IN is no EARTH", x, TEAM, 1, 15);
        dueRead("IN is no EARTH", x, TEAM, 1, 0, 1, 2, 6);
    }

    private static void readsOut() {
        sentence(33, "100 if it is no FURROW for OUT alone, or isn't WHOLE.");
        OneFurrow x = earth(0, 1, 2, 6);
        dueRead("one number too few", x, TEAM, 100, 0, 1, 2);
        dueRead("no numbers", x, TEAM, 100);
        dueRead("no numbers, no EARTH", earth(), TEAM, 100);
        x.set(0, OUT, 6);
        dueRead("OUT", x, TEAM, 0, 0, 1, 2, 6);
        dueRead("not OUT", x, TEAM, 100, 6, 2, 1, 0);
        dueRead("OUT, but not WHOLE", x, TEAM, 100, 1, 2, 6);
        dueRead("a fault ahead of OUT", x, TEAM, 2, 6, 1);
        x.set(0, OUT, 15);
        dueRead("OUT is no EARTH", x, TEAM, 100, 0, 1, 2, 6);

        sentence(33, "BEYOND: no such sheet. MISSING. BEYOND: no such TEAM, FIELD.");
        due("sheet 4", x.read(4, TEAM, 0), BEYOND);
        due("sheet -1", x.read(-1, TEAM, 0), BEYOND);
        due("MISSING", x.read(3, TEAM, 0), MISSING);
        due("MISSING, TEAM 6", x.read(3, 6, 0), MISSING);
        due("TEAM 6", x.read(0, 6, 0), BEYOND);
        due("TEAM -1", x.read(0, -1, 0), BEYOND);
        due("FIELD 1", x.read(0, TEAM, 1), BEYOND);
        due("FIELD -1", x.read(0, TEAM, -1), BEYOND);
    }

    // ---- images

    private static void images() {
        sentence(34, "All that section 1 tells (THE TAPE not) is kept: 1.");
        OneFurrow x = new OneFurrow();
        due("of nothing", x.image(), 1);
        x.field();
        x.field();
        x.team(SHY, 7);
        feed(x, "xyz");
        x.join(0, 1, true);
        due("undo() to nothing", x.undo(), 0);
        due("no TEAM", x.count(1), 0);
        due("no join", x.count(3), 0);
        due("THE TAPE stays", x.count(4), 3);
        due("a FIELD is new", x.field(), 0);
        x.field();
        due("not JOINED", x.joined(0), 0);
        for (int i = 2; i < 6; i++) {
            x.field();
        }
        due("of six", x.image(), 1);
        due("image() again", x.image(), 1);

        sentence(35, "It becomes what was kept latest (which stays): how many FIELDS. NONE: nothing is kept.");
        x.set(5, STONES, 7);
        due("six", x.undo(), 6);
        due("as it was", x.of(5, STONES), 0);
        x.set(5, STONES, 8);
        due("six again", x.undo(), 6);
        due("as it was", x.of(5, STONES), 0);
        due("nothing is kept", new OneFurrow().undo(), NONE);

        sentence(36, "Nothing is kept: 1 if something was, else 0.");
        due("something was", x.tear(), 1);
        due("nothing was", x.tear(), 0);
        due("undo()", x.undo(), NONE);
        due("the FIELDS stay", x.count(0), 6);
        due("nothing ever was", new OneFurrow().tear(), 0);
        x.image();
        due("something is again", x.undo(), 6);
    }

    private static void counts() {
        sentence(37, "0 FIELDS, 1 TEAMS, 2 CELLS of EARTH in all FIELDS, 3 joins, 4 bytes of THE TAPE.");
        OneFurrow x = allJoined(1, 1, 1, 1, 1, 1, 1);
        for (int i = 0; i < 6; i++) {
            x.set(i, STONES, 0);
            x.team(TEAM, 1);
        }
        for (int i = 0; i < 30; i++) {
            x.feed(0, 4);
        }
        int[] most = {6, 6, 96, 30, 120};
        for (int what = 0; what < most.length; what++) {
            due("the most, what " + what, x.count(what), most[what]);
            due("the least, what " + what, new OneFurrow().count(what), 0);
        }
        for (int i = 0; i < 6; i++) {
            x.set(i, TREES, ALL);
        }
        due("no EARTH", x.count(2), 0);

        sentence(37, "BEYOND: another what.");
        due("5", x.count(5), BEYOND);
        due("-1", x.count(-1), BEYOND);
    }

    private static void status() {
        sentence(38, "How many acts answered a finding ever (undo() takes none back)");
        OneFurrow x = new OneFurrow();
        x.image();
        x.of(0, 0);
        x.undo();
        due("one", x.status(-1), 1);
        x.tear();
        x.undo();
        due("one more", x.status(-1), 2);
        x.write(0, 0, 0);
        due("one of long", x.status(-1), 3);
        x.parish();
        due("a FAULT is none", x.status(-1), 3);

        sentence(38, "which -1: all, 0 to 6: BEYOND to SIZE.");
        x.sheet(0, 8, -1);
        int[] due = {1, 0, 0, 1, 0, 1, 1};
        for (int which = 0; which < due.length; which++) {
            due("which " + which, x.status(which), due[which]);
        }
        due("all", x.status(-1), 4);

        sentence(38, "BEYOND (counted from then on): another one.");
        due("7", x.status(7), BEYOND);
        due("counted", x.status(0), 2);
        due("-2", x.status(-2), BEYOND);
        due("counted, too", x.status(0), 3);
        due("all", x.status(-1), 6);
    }
}
