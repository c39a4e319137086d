import java.util.ArrayList;
import java.util.List;

/**
 * "Each act tells its findings in the order in which they are asked; one that answers a finding changes
 * nothing but status()." Every argument of every act at its bounds and beyond them, every finding of every
 * act, and pairs of findings at once: what is refused is refused on one of two objects alike, then both are
 * looked at as far as calls can look.
 */
public final class RefusedCallsTest {
    private static final int BEYOND = 0;
    private static final int FULL = 1;
    private static final int KIND = 2;
    private static final int NONE = 3;
    private static final int MISSING = 5;
    private static final int SIZE = 6;
    private static final long FIRST_FINDING = -1000000001L;
    private static final int LEAST = Integer.MIN_VALUE;
    private static final int MOST = Integer.MAX_VALUE;
    private static int wrong = 0;

    private interface Act {
        long on(OneFurrow x);
    }

    private interface ActWith {
        long on(OneFurrow x, int argument);
    }

    private interface State {
        OneFurrow made();
    }

    public static void main(String[] args) {
        fields();
        teams();
        furrows();
        parishes();
        texts();
        sheets();
        copies();
        images();
        nothingThere();
        ordersOfTeams();
        ordersOfFurrows();
        ordersOfSheets();
        System.out.println(wrong == 0 ? "all answers are as due" : wrong + " answers are not as due");
        if (wrong != 0) {
            System.exit(1);
        }
    }

    private static void due(String call, long got, long want) {
        if (got != want) {
            wrong++;
            System.out.println(call + " answered " + got + ", due is " + want);
        }
    }

    // ---- states, made anew for every call

    /** Three fields in a line, field 2 without a whole furrow, two teams, an image of another state, a tape. */
    private static OneFurrow some() {
        OneFurrow x = new OneFurrow();
        x.field();
        x.team(4, 7);
        x.image();
        x.field();
        x.field();
        x.team(1, 2);
        int[] marks = {0xFF80, 0x8000, 0, 6, 3, 50};
        for (int what = 0; what < marks.length; what++) {
            x.set(0, what, marks[what]);
        }
        x.set(2, 0, 0xFFFA);
        x.join(0, 1, true);
        x.join(1, 2, true);
        sheetsOf(x);
        feed(x, "join 2 0;field stones 1");
        return x;
    }

    /** As many fields, teams and bytes as there can be. */
    private static OneFurrow most() {
        OneFurrow x = new OneFurrow();
        for (int i = 0; i < 6; i++) {
            x.field();
            x.team(i, i + 1);
            x.set(i, 0, 0xFFF0);
        }
        for (int i = 0; i < 5; i++) {
            x.join(i, i + 1, true);
        }
        x.image();
        x.join(5, 0, true);
        sheetsOf(x);
        feed(x, "join 5 1;" + " ".repeat(103) + "join 4 0");
        return x;
    }

    private static OneFurrow none() {
        return new OneFurrow();
    }

    private static void sheetsOf(OneFurrow x) {
        int[] bits = {8, 16, 64};
        for (int s = 0; s < bits.length; s++) {
            x.sheet(s, bits[s], 4);
            for (int i = 0; i < 4; i++) {
                x.write(s, i, i);
            }
        }
    }

    private static void feed(OneFurrow x, String text) {
        int length = text.length();
        for (int i = 0; i + 4 <= length; i += 4) {
            int bytes = text.charAt(i) << 24 | text.charAt(i + 1) << 16 | text.charAt(i + 2) << 8 | text.charAt(i + 3);
            x.feed(bytes, 4);
        }
        for (int i = length - length % 4; i < length; i++) {
            x.feed(text.charAt(i), 1);
        }
    }

    // ---- what calls can see of an object

    private static List<Long> seen(OneFurrow x) {
        List<Long> seen = new ArrayList<>();
        seeParish(x, seen);
        for (int team = 0; team < 2; team++) {
            for (int field = 0; field < 3; field++) {
                seen.add((long) x.best(team, field, -1));
                seen.add((long) x.missed(team, field));
            }
            seen.add((long) x.late(team, -1));
        }
        for (int s = 0; s < 4; s++) {
            for (int i = 0; i <= 4; i++) {
                seen.add(x.write(s, i, 0));
            }
        }
        seen.add((long) x.parish());
        seeParish(x, seen);
        seen.add((long) x.undo());
        seeParish(x, seen);
        return seen;
    }

    private static void seeParish(OneFurrow x, List<Long> seen) {
        for (int what = 0; what <= 4; what++) {
            seen.add((long) x.count(what));
        }
        for (int i = 0; i < 6; i++) {
            for (int what = 0; what <= 5; what++) {
                seen.add((long) x.of(i, what));
            }
            seen.add((long) x.joined(i));
            seen.add((long) x.teamOf(i, 0));
            seen.add((long) x.teamOf(i, 1));
        }
    }

    private static int[] statusOf(OneFurrow x) {
        int[] status = new int[8];
        for (int which = -1; which <= 6; which++) {
            status[which + 1] = x.status(which);
        }
        return status;
    }

    // ---- one call

    private static void refused(String call, int finding, State state, Act act) {
        OneFurrow x = state.made();
        OneFurrow twin = state.made();
        int[] was = statusOf(x);
        due(call, act.on(x), FIRST_FINDING - finding);
        int[] is = statusOf(x);
        for (int which = -1; which <= 6; which++) {
            int more = which == -1 || which == finding ? 1 : 0;
            due("status(" + which + ") behind " + call, is[which + 1], was[which + 1] + more);
        }
        List<Long> left = seen(x);
        List<Long> want = seen(twin);
        for (int i = 0; i < want.size(); i++) {
            due("what is seen, " + i + ", behind " + call, left.get(i), want.get(i));
        }
    }

    private static void taken(String call, State state, Act act) {
        OneFurrow x = state.made();
        int was = x.status(-1);
        act.on(x);
        due("status(-1) behind " + call, x.status(-1), was);
    }

    /** An argument that may be from least to most, and nothing else. */
    private static void bounds(String call, int least, int most, ActWith act) {
        bounds(call, least, most, RefusedCallsTest::some, act);
    }

    private static void bounds(String call, int least, int most, State state, ActWith act) {
        for (int v : new int[] {least, most}) {
            taken(call + " with " + v, state, x -> act.on(x, v));
        }
        for (int v : new int[] {least - 1, most + 1, LEAST, MOST, least - 256, most + 256, least - 65536, most + 65536}) {
            refused(call + " with " + v, BEYOND, state, x -> act.on(x, v));
        }
    }

    // ---- the acts

    private static void fields() {
        refused("2: a 7th field()", FULL, RefusedCallsTest::most, x -> x.field());
        bounds("3: of(?, 0)", 0, 2, (x, v) -> x.of(v, 0));
        bounds("3: of(0, ?)", 0, 7, (x, v) -> x.of(0, v));
        bounds("4: set(?, 5, 7)", 0, 2, (x, v) -> x.set(v, 5, 7));
        bounds("4: set(0, ?, 7)", 0, 5, (x, v) -> x.set(0, v, 7));
        bounds("4: set(1, 0, ?)", 0, 65535, (x, v) -> x.set(1, 0, v));
        bounds("4: set(1, 1, ?)", 0, 65535, (x, v) -> x.set(1, 1, v));
        bounds("4: set(1, 2, ?)", -1, 15, (x, v) -> x.set(1, 2, v));
        bounds("4: set(1, 3, ?)", -1, 15, (x, v) -> x.set(1, 3, v));
        bounds("4: set(1, 4, ?)", 0, 99, (x, v) -> x.set(1, 4, v));
        bounds("4: set(1, 5, ?)", 0, 999, (x, v) -> x.set(1, 5, v));
        bounds("5: join(?, 1, true)", 0, 2, (x, v) -> x.join(v, 1, true));
        bounds("5: join(1, ?, true)", 0, 2, (x, v) -> x.join(1, v, true));
        bounds("5: join(?, 1, false)", 0, 2, (x, v) -> x.join(v, 1, false));
        bounds("5: join(1, ?, false)", 0, 2, (x, v) -> x.join(1, v, false));
        for (int field = -1; field <= 3; field++) {
            int same = field;
            refused("5: join(" + same + ", " + same + ", true)", BEYOND, RefusedCallsTest::some, x -> x.join(same, same, true));
            refused("5: join(" + same + ", " + same + ", false)", BEYOND, RefusedCallsTest::some, x -> x.join(same, same, false));
        }
        bounds("6: joined(?)", 0, 2, (x, v) -> x.joined(v));
        bounds("6: joined(?) of six", 0, 5, RefusedCallsTest::most, (x, v) -> x.joined(v));
        bounds("3: of(?, 6) of six", 0, 5, RefusedCallsTest::most, (x, v) -> x.of(v, 6));
    }

    private static void teams() {
        bounds("7: team(?, 1)", 0, 5, (x, v) -> x.team(v, 1));
        bounds("7: team(0, ?)", 1, 9, (x, v) -> x.team(0, v));
        refused("7: a 7th team(0, 1)", FULL, RefusedCallsTest::most, x -> x.team(0, 1));
        bounds("8: teamOf(?, 0)", 0, 1, (x, v) -> x.teamOf(v, 0));
        bounds("8: teamOf(?, 2) of six", 0, 5, RefusedCallsTest::most, (x, v) -> x.teamOf(v, 2));
        bounds("8: teamOf(0, ?)", 0, 2, (x, v) -> x.teamOf(0, v));
        bounds("9: pace(?, 5)", 0, 1, (x, v) -> x.pace(v, 5));
        bounds("9: pace(0, ?)", 1, 9, (x, v) -> x.pace(0, v));
        bounds("10: as(?, 0)", 0, 1, (x, v) -> x.as(v, 0));
        bounds("10: as(5, ?)", 0, 5, RefusedCallsTest::most, (x, v) -> x.as(5, v));
        refused("10: as(0, 2)", KIND, RefusedCallsTest::some, x -> x.as(0, 2));
        refused("10: as(1, 4), which is under it", KIND, RefusedCallsTest::some, x -> x.as(1, 4));
        bounds("11: may(?, 0, 0, 0, 0, false)", 0, 1, (x, v) -> x.may(v, 0, 0, 0, 0, false));
        bounds("11: may(0, ?, 0, 0, 0, false)", 0, 2, (x, v) -> x.may(0, v, 0, 0, 0, false));
        bounds("11: may(0, 0, ?, 0, 0, false)", 0, 15, (x, v) -> x.may(0, 0, v, 0, 0, false));
        bounds("11: may(0, 0, 0, ?, 0, true)", -1, 3, (x, v) -> x.may(0, 0, 0, v, 0, true));
        bounds("11: may(0, 0, 0, 0, ?, false)", 0, 3, (x, v) -> x.may(0, 0, 0, 0, v, false));
    }

    private static void furrows() {
        bounds("12: best(?, 1, -1)", 0, 1, (x, v) -> x.best(v, 1, -1));
        bounds("12: best(0, ?, -1)", 0, 5, RefusedCallsTest::most, (x, v) -> x.best(0, v, -1));
        bounds("12: best(0, 1, ?)", -2, 15, (x, v) -> x.best(0, 1, v));
        refused("12: best(0, 2, -1), no whole furrow", NONE, RefusedCallsTest::some, x -> x.best(0, 2, -1));
        refused("12: best(0, 2, -2), no whole furrow", NONE, RefusedCallsTest::some, x -> x.best(0, 2, -2));
        refused("12: best(0, 2, 0), no whole furrow", NONE, RefusedCallsTest::some, x -> x.best(0, 2, 0));
        taken("12: best(0, 0, 3), the last of four", RefusedCallsTest::most, x -> x.best(0, 0, 3));
        refused("12: best(0, 0, 4), no 4th", NONE, RefusedCallsTest::most, x -> x.best(0, 0, 4));
        refused("12: best(0, 0, 15), no 15th", NONE, RefusedCallsTest::most, x -> x.best(0, 0, 15));
        bounds("13: many(?, 0)", 0, 1, (x, v) -> x.many(v, 0));
        bounds("13: many(0, ?)", 0, 2, (x, v) -> x.many(0, v));
        bounds("14: barred(?)", 0, 2, (x, v) -> x.barred(v));
        bounds("15: missed(?, 1)", 0, 1, (x, v) -> x.missed(v, 1));
        bounds("15: missed(1, ?)", 0, 5, RefusedCallsTest::most, (x, v) -> x.missed(1, v));
        refused("15: missed(1, 0), no furrow", NONE, RefusedCallsTest::stonyOut, x -> x.missed(1, 0));
        bounds("16: stone(?, 2)", 0, 1, (x, v) -> x.stone(v, 2));
        bounds("16: stone(0, ?)", 0, 5, RefusedCallsTest::most, (x, v) -> x.stone(0, v));
        refused("16: stone(0, 1), no stone", NONE, RefusedCallsTest::some, x -> x.stone(0, 1));
        bounds("17: gate(?, 1, 2)", 0, 1, (x, v) -> x.gate(v, 1, 2));
        bounds("17: gate(1, ?, 3)", 0, 5, RefusedCallsTest::most, (x, v) -> x.gate(1, v, 3));
        bounds("17: gate(1, 1, ?)", 2, 3, (x, v) -> x.gate(1, 1, v));
        refused("17: gate(0, 2, 2), no whole furrow", NONE, RefusedCallsTest::some, x -> x.gate(0, 2, 2));
        refused("17: gate(0, 2, 3), no whole furrow", NONE, RefusedCallsTest::some, x -> x.gate(0, 2, 3));
        bounds("18: whose(?)", 0, 5, RefusedCallsTest::most, (x, v) -> x.whose(v));
        refused("18: whose(2), no whole furrow", NONE, RefusedCallsTest::some, x -> x.whose(2));
    }

    private static OneFurrow stonyOut() {
        OneFurrow x = some();
        x.set(0, 3, 15);
        return x;
    }

    private static void parishes() {
        bounds("19: lines(?)", 0, 1, (x, v) -> x.lines(v));
        bounds("19: lines(?) of six", 0, 5, RefusedCallsTest::most, (x, v) -> x.lines(v));
        bounds("20: late(?, -1)", 0, 5, RefusedCallsTest::most, (x, v) -> x.late(v, -1));
        bounds("20: late(0, ?)", -2, 5, RefusedCallsTest::most, (x, v) -> x.late(0, v));
        for (int what = -2; what <= 5; what++) {
            int v = what;
            refused("20: late(0, " + v + "), no line", NONE, RefusedCallsTest::some, x -> x.late(0, v));
        }
        taken("20: late(0, 1), the last of two", RefusedCallsTest::pair, x -> x.late(0, 1));
        refused("20: late(0, 2), no such field in it", NONE, RefusedCallsTest::pair, x -> x.late(0, 2));
        refused("20: late(0, 5), no such field in it", NONE, RefusedCallsTest::pair, x -> x.late(0, 5));
        bounds("21: done(?, 0)", 0, 5, RefusedCallsTest::most, (x, v) -> x.done(v, 0));
        bounds("21: done(0, ?)", 0, 5, RefusedCallsTest::most, (x, v) -> x.done(0, v));
        bounds("21: done(0, ?) of two", 0, 1, RefusedCallsTest::pair, (x, v) -> x.done(0, v));
        refused("21: done(0, 0), no line", NONE, RefusedCallsTest::some, x -> x.done(0, 0));
        bounds("22: yields(?)", 0, 5, RefusedCallsTest::most, (x, v) -> x.yields(v));
        refused("22: yields(0), no line", NONE, RefusedCallsTest::some, x -> x.yields(0));
        bounds("23: row(?, 0, 1)", 0, 1, (x, v) -> x.row(v, 0, 1));
        bounds("23: row(0, 0, ?)", 0, 6, (x, v) -> x.row(0, 0, v));
        int most = 1;
        for (int n = 0; n <= 6; n++) {
            int fields = n;
            bounds("23: row(0, ?, " + n + ")", 0, most - 1, RefusedCallsTest::most, (x, v) -> x.row(0, v, fields));
            most *= 6;
        }
        bounds("23: row(0, ?, 1) of three", 0, 2, (x, v) -> x.row(0, v, 1));
        bounds("23: row(0, ?, 3) of three, the last place", 0, 2, (x, v) -> x.row(0, v, 3));
        for (int place : new int[] {1, 6, 36}) {
            taken("23: row(0, 2 times " + place + ", 3) of three", RefusedCallsTest::some, x -> x.row(0, 2 * place, 3));
            refused("23: row(0, 3 times " + place + ", 3) of three", BEYOND, RefusedCallsTest::some, x -> x.row(0, 3 * place, 3));
            refused("23: row(0, 5 times " + place + ", 3) of three", BEYOND, RefusedCallsTest::some, x -> x.row(0, 5 * place, 3));
        }
        bounds("24: lacks(?)", 0, 5, RefusedCallsTest::most, (x, v) -> x.lacks(v));
        refused("24: lacks(0), field 2 has no whole furrow", NONE, RefusedCallsTest::some, x -> x.lacks(0));
    }

    /** Two fields that are joined one way. */
    private static OneFurrow pair() {
        OneFurrow x = new OneFurrow();
        x.field();
        x.field();
        x.team(0, 9);
        x.join(1, 0, true);
        return x;
    }

    private static void texts() {
        bounds("25: feed(0, ?)", 1, 4, (x, v) -> x.feed(0x20202020, v));
        for (int n = 1; n <= 4; n++) {
            int more = n;
            refused("25: feed(0, " + n + "), 120 are there", FULL, RefusedCallsTest::most, x -> x.feed(0, more));
        }
        for (int room = 1; room <= 3; room++) {
            int left = room;
            taken("25: feed(0, " + left + "), room for as many", () -> withRoom(left), x -> x.feed(0, left));
            refused("25: feed(0, " + (left + 1) + "), room for one less", FULL, () -> withRoom(left), x -> x.feed(0, left + 1));
        }
        taken("26: wipe() of nothing", RefusedCallsTest::none, x -> x.wipe());
        taken("27: parish() of nothing", RefusedCallsTest::none, x -> x.parish());
        taken("27: parish() with a fault", () -> withRoom(1), x -> x.parish());
    }

    private static OneFurrow withRoom(int left) {
        OneFurrow x = some();
        x.wipe();
        feed(x, "field;join 3 0#".concat(" ".repeat(105 - left)));
        return x;
    }

    private static void sheets() {
        bounds("28: sheet(?, 8, 1)", 0, 3, (x, v) -> x.sheet(v, 8, 1));
        for (int bits = -65; bits <= 129; bits++) {
            int b = bits;
            if (b == 0 || b == 8 || b == 16 || b == 64) {
                taken("28: sheet(0, " + b + ", 1)", RefusedCallsTest::some, x -> x.sheet(0, b, 1));
            } else {
                refused("28: sheet(0, " + b + ", 1)", BEYOND, RefusedCallsTest::some, x -> x.sheet(0, b, 1));
            }
        }
        for (int bits : new int[] {0, 8, 16, 64}) {
            for (int n : new int[] {0, 40}) {
                taken("28: sheet(0, " + bits + ", " + n + ")", RefusedCallsTest::some, x -> x.sheet(0, bits, n));
            }
            for (int n : new int[] {-1, -40, -256, LEAST}) {
                refused("28: sheet(0, " + bits + ", " + n + ")", SIZE, RefusedCallsTest::some, x -> x.sheet(0, bits, n));
            }
            for (int n : new int[] {41, 256, 65536, MOST}) {
                refused("28: sheet(0, " + bits + ", " + n + ")", BEYOND, RefusedCallsTest::some, x -> x.sheet(0, bits, n));
            }
        }
        bounds("29: write(?, 0, 5)", 0, 3, RefusedCallsTest::fourSheets, (x, v) -> x.write(v, 0, 5));
        bounds("29: write(0, ?, 5)", 0, 3, (x, v) -> x.write(0, v, 5));
        bounds("29: write(3, ?, 5) of 40", 0, 39, RefusedCallsTest::fourSheets, (x, v) -> x.write(3, v, 5));
        refused("29: write(3, 0, 5), missing", MISSING, RefusedCallsTest::some, x -> x.write(3, 0, 5));
        bounds("31: lays(?, 1)", 0, 3, RefusedCallsTest::fourSheets, (x, v) -> x.lays(v, 1));
        bounds("31: lays(0, ?)", 0, 2, (x, v) -> x.lays(0, v));
        refused("31: lays(3, 1), missing", MISSING, RefusedCallsTest::some, x -> x.lays(3, 1));
        bounds("32: draw(?, 0, 1)", 0, 3, RefusedCallsTest::fourSheets, (x, v) -> x.draw(v, 0, 1));
        bounds("32: draw(0, ?, 1)", 0, 1, (x, v) -> x.draw(0, v, 1));
        bounds("32: draw(0, 0, ?)", 0, 5, RefusedCallsTest::most, (x, v) -> x.draw(0, 0, v));
        refused("32: draw(3, 0, 1), missing", MISSING, RefusedCallsTest::some, x -> x.draw(3, 0, 1));
        refused("32: draw(0, 0, 2), no whole furrow", NONE, RefusedCallsTest::some, x -> x.draw(0, 0, 2));
        bounds("33: read(?, 0, 1)", 0, 3, RefusedCallsTest::fourSheets, (x, v) -> x.read(v, 0, 1));
        bounds("33: read(0, ?, 1)", 0, 1, (x, v) -> x.read(0, v, 1));
        bounds("33: read(0, 0, ?)", 0, 2, (x, v) -> x.read(0, 0, v));
        refused("33: read(3, 0, 1), missing", MISSING, RefusedCallsTest::some, x -> x.read(3, 0, 1));
    }

    /** Sheets 0 and 3 of as many bits, the last one as long as can be. */
    private static OneFurrow fourSheets() {
        OneFurrow x = some();
        x.sheet(3, 8, 40);
        return x;
    }

    private static void copies() {
        bounds("30: copy(?, 0, 0, 0, 1)", 0, 3, RefusedCallsTest::fourSheets, (x, v) -> x.copy(v, 0, 0, 0, 1));
        bounds("30: copy(0, 0, ?, 0, 1)", 0, 3, RefusedCallsTest::fourSheets, (x, v) -> x.copy(0, 0, v, 0, 1));
        bounds("30: copy(0, ?, 0, 0, 1)", 0, 3, (x, v) -> x.copy(0, v, 0, 0, 1));
        bounds("30: copy(0, 0, 0, ?, 1)", 0, 3, (x, v) -> x.copy(0, 0, 0, v, 1));
        bounds("30: copy(0, 0, 0, 0, ?)", 0, 4, (x, v) -> x.copy(0, 0, 0, 0, v));
        bounds("30: copy(0, 2, 0, 0, ?)", 0, 2, (x, v) -> x.copy(0, 2, 0, 0, v));
        bounds("30: copy(0, 0, 0, 3, ?)", 0, 1, (x, v) -> x.copy(0, 0, 0, 3, v));
        bounds("30: copy(0, 4, 0, 4, ?)", 0, 0, (x, v) -> x.copy(0, 4, 0, 4, v));
        refused("30: copy(0, most, 0, 0, most)", BEYOND, RefusedCallsTest::some, x -> x.copy(0, MOST, 0, 0, MOST));
        refused("30: copy(0, 0, 0, most, most)", BEYOND, RefusedCallsTest::some, x -> x.copy(0, 0, 0, MOST, MOST));
        refused("30: copy(0, 2, 0, 0, most - 1)", BEYOND, RefusedCallsTest::some, x -> x.copy(0, 2, 0, 0, MOST - 1));
        refused("30: copy(3, 0, 0, 0, 1), missing", MISSING, RefusedCallsTest::some, x -> x.copy(3, 0, 0, 0, 1));
        refused("30: copy(0, 0, 3, 0, 1), missing", MISSING, RefusedCallsTest::some, x -> x.copy(0, 0, 3, 0, 1));
        for (int s = 0; s < 3; s++) {
            for (int t = 0; t < 3; t++) {
                int from = s;
                int to = t;
                if (s == t) {
                    taken("30: copy of as many bits", RefusedCallsTest::some, x -> x.copy(from, 0, to, 0, 1));
                } else {
                    refused("30: copy(" + s + ", 0, " + t + ", 0, 1), other bits", KIND, RefusedCallsTest::some,
                        x -> x.copy(from, 0, to, 0, 1));
                }
            }
        }
    }

    private static void images() {
        refused("35: undo(), nothing is kept", NONE, RefusedCallsTest::torn, x -> x.undo());
        refused("35: undo(), nothing was ever kept", NONE, RefusedCallsTest::pair, x -> x.undo());
        taken("36: tear() of nothing", RefusedCallsTest::none, x -> x.tear());
        bounds("37: count(?)", 0, 4, (x, v) -> x.count(v));
        bounds("38: status(?)", -1, 6, (x, v) -> x.status(v));
    }

    private static OneFurrow torn() {
        OneFurrow x = some();
        x.tear();
        return x;
    }

    /** Without fields and teams all numbers of theirs are beyond. */
    private static void nothingThere() {
        Act[] acts = {
            x -> x.of(0, 0), x -> x.set(0, 0, 0), x -> x.join(0, 1, true), x -> x.joined(0), x -> x.teamOf(0, 0),
            x -> x.pace(0, 1), x -> x.as(0, 0), x -> x.may(0, 0, 0, 0, 0, false), x -> x.best(0, 0, 0), x -> x.many(0, 0),
            x -> x.barred(0), x -> x.missed(0, 0), x -> x.stone(0, 0), x -> x.gate(0, 0, 2), x -> x.whose(0),
            x -> x.lines(0), x -> x.late(0, -1), x -> x.done(0, 0), x -> x.yields(0), x -> x.row(0, 0, 0), x -> x.lacks(0)};
        for (int i = 0; i < acts.length; i++) {
            refused("without fields and teams, call " + i, BEYOND, RefusedCallsTest::none, acts[i]);
        }
        refused("without a field, one told", BEYOND, RefusedCallsTest::onlyTeam, x -> x.row(0, 0, 1));
        refused("without a field, best", BEYOND, RefusedCallsTest::onlyTeam, x -> x.best(0, 0, -1));
        refused("without a field, done", BEYOND, RefusedCallsTest::onlyTeam, x -> x.done(0, 0));
        refused("without a field, late", NONE, RefusedCallsTest::onlyTeam, x -> x.late(0, -1));
        refused("without a field, yields", NONE, RefusedCallsTest::onlyTeam, x -> x.yields(0));
        refused("without a field, lacks", NONE, RefusedCallsTest::onlyTeam, x -> x.lacks(0));
        taken("without a field, lines", RefusedCallsTest::onlyTeam, x -> x.lines(0));
        taken("without a field, row of none", RefusedCallsTest::onlyTeam, x -> x.row(0, 0, 0));
    }

    private static OneFurrow onlyTeam() {
        OneFurrow x = new OneFurrow();
        x.team(5, 9);
        return x;
    }

    // ---- two findings at once: the one that is asked first

    private static void ordersOfTeams() {
        State most = RefusedCallsTest::most;
        refused("7: BEYOND ahead of FULL, kind", BEYOND, most, x -> x.team(6, 1));
        refused("7: BEYOND ahead of FULL, pace", BEYOND, most, x -> x.team(0, 10));
        refused("10: BEYOND ahead of KIND, team", BEYOND, most, x -> x.as(6, 1));
        refused("10: BEYOND ahead of KIND, kind", BEYOND, most, x -> x.as(0, 6));
        refused("25: BEYOND ahead of FULL, 0", BEYOND, most, x -> x.feed(0, 0));
        refused("25: BEYOND ahead of FULL, 5", BEYOND, most, x -> x.feed(0, 5));
        refused("25: BEYOND ahead of FULL, most", BEYOND, most, x -> x.feed(0, MOST));
    }

    private static void ordersOfFurrows() {
        State some = RefusedCallsTest::some;
        refused("12: BEYOND ahead of NONE, what", BEYOND, some, x -> x.best(0, 2, 16));
        refused("12: BEYOND ahead of NONE, what", BEYOND, some, x -> x.best(0, 2, -3));
        refused("12: BEYOND ahead of NONE, team", BEYOND, some, x -> x.best(2, 2, -1));
        refused("15: BEYOND ahead of NONE", BEYOND, RefusedCallsTest::stonyOut, x -> x.missed(2, 0));
        refused("16: BEYOND ahead of NONE", BEYOND, some, x -> x.stone(2, 1));
        refused("17: BEYOND ahead of NONE, what", BEYOND, some, x -> x.gate(0, 2, 4));
        refused("17: BEYOND ahead of NONE, what", BEYOND, some, x -> x.gate(0, 2, 1));
        refused("17: BEYOND ahead of NONE, team", BEYOND, some, x -> x.gate(2, 2, 2));
        refused("20: BEYOND ahead of NONE, what", BEYOND, some, x -> x.late(0, 6));
        refused("20: BEYOND ahead of NONE, what", BEYOND, some, x -> x.late(0, -3));
        refused("20: BEYOND ahead of NONE, team", BEYOND, some, x -> x.late(2, -1));
        refused("21: BEYOND ahead of NONE, field", BEYOND, some, x -> x.done(0, 3));
        refused("21: BEYOND ahead of NONE, team", BEYOND, some, x -> x.done(2, 0));
        refused("22: BEYOND ahead of NONE", BEYOND, some, x -> x.yields(2));
        refused("24: BEYOND ahead of NONE", BEYOND, some, x -> x.lacks(2));
    }

    private static void ordersOfSheets() {
        State some = RefusedCallsTest::some;
        refused("28: no such sheet ahead of SIZE", BEYOND, some, x -> x.sheet(4, 8, -1));
        refused("28: other bits ahead of SIZE", BEYOND, some, x -> x.sheet(0, 32, -1));
        refused("29: no such sheet ahead of no such number", BEYOND, some, x -> x.write(4, 4, 0));
        refused("29: MISSING ahead of no such number", MISSING, some, x -> x.write(3, -1, 0));
        refused("29: MISSING ahead of no such number", MISSING, some, x -> x.write(3, 40, 0));
        refused("30: no such sheet ahead of MISSING", BEYOND, some, x -> x.copy(3, 0, 4, 0, 1));
        refused("30: no such sheet ahead of MISSING", BEYOND, some, x -> x.copy(-1, 0, 3, 0, 1));
        refused("30: MISSING ahead of KIND and BEYOND", MISSING, some, x -> x.copy(3, -1, 1, -1, -1));
        refused("30: MISSING ahead of KIND and BEYOND", MISSING, some, x -> x.copy(1, 9, 3, 9, 99));
        refused("30: both MISSING, ahead of BEYOND", MISSING, some, x -> x.copy(3, -1, 3, 0, 1));
        refused("30: KIND ahead of BEYOND, from", KIND, some, x -> x.copy(0, -1, 1, 0, 1));
        refused("30: KIND ahead of BEYOND, to", KIND, some, x -> x.copy(0, 0, 1, -1, 1));
        refused("30: KIND ahead of BEYOND, n", KIND, some, x -> x.copy(0, 0, 1, 0, -1));
        refused("30: KIND ahead of BEYOND, too many", KIND, some, x -> x.copy(0, 0, 1, 0, 5));
        refused("31: no such sheet ahead of no such field", BEYOND, some, x -> x.lays(4, 3));
        refused("31: MISSING ahead of no such field", MISSING, some, x -> x.lays(3, 3));
        refused("32: MISSING ahead of no such team", MISSING, some, x -> x.draw(3, 2, 0));
        refused("32: MISSING ahead of no such field", MISSING, some, x -> x.draw(3, 0, 3));
        refused("32: MISSING ahead of NONE", MISSING, some, x -> x.draw(3, 0, 2));
        refused("32: no such team ahead of NONE", BEYOND, some, x -> x.draw(0, 2, 2));
        refused("33: MISSING ahead of no such team", MISSING, some, x -> x.read(3, 2, 0));
        refused("33: MISSING ahead of no such field", MISSING, some, x -> x.read(3, 0, 3));
    }
}
