/** Promises 1 to 11: a new object, fields, joins, teams, their kinds and what they may. */
public final class FieldsAndTeamsTest {
    private static final long BEYOND = -1000000001L;
    private static final long FULL = -1000000002L;
    private static final long KIND = -1000000003L;
    private static final long NONE = -1000000004L;
    private static final int ALL = 0xFFFF;
    private static int wrong = 0;

    private static void due(String call, long got, long want) {
        if (got != want) {
            wrong++;
            System.out.println(call + " answered " + got + ", due is " + want);
        }
    }

    public static void main(String[] args) {
        newObject();
        field();
        of();
        set();
        setBeyond();
        join();
        joined();
        team();
        teamOf();
        pace();
        as();
        mayByTurns();
        mayByTrees();
        mayBeyond();
        System.out.println(wrong == 0 ? "all answers are as due" : wrong + " answers are not as due");
        if (wrong != 0) {
            System.exit(1);
        }
    }

    private static void newObject() {
        OneFurrow x = new OneFurrow();
        for (int what = 0; what <= 4; what++) {
            due("1: count(" + what + ")", x.count(what), 0);
        }
        for (int which = -1; which <= 6; which++) {
            due("1: status(" + which + ")", x.status(which), 0);
        }
        due("1: tear()", x.tear(), 0);
        due("1: undo()", x.undo(), NONE);
        due("1: status(3)", x.status(3), 1);
        due("1: another object has its own status", new OneFurrow().status(-1), 0);
    }

    private static void field() {
        OneFurrow x = new OneFurrow();
        for (int i = 0; i < 6; i++) {
            due("2: field()", x.field(), i);
        }
        due("2: a 7th field()", x.field(), FULL);
        due("2: count(0)", x.count(0), 6);
        due("2: status(1)", x.status(1), 1);
    }

    private static void of() {
        OneFurrow x = new OneFurrow();
        due("3: of() without fields", x.of(0, 0), BEYOND);
        x.field();
        int[] first = {0, 0, -1, -1, 0, 100, ALL, 0};
        for (int what = 0; what < first.length; what++) {
            due("3: of(0, " + what + ") at first", x.of(0, what), first[what]);
        }
        x.set(0, 0, 0b11);
        x.set(0, 1, 0b110);
        due("3: EARTH is neither stone nor tree", x.of(0, 6), ALL & ~0b111);
        due("3: COLOURS", x.of(0, 7), -1);
        x.set(0, 0, 0x5A5A);
        x.set(0, 1, 0);
        due("3: COLOURS, all even", x.of(0, 7), 8);
        x.set(0, 0, 0xA5A5);
        due("3: COLOURS, all odd", x.of(0, 7), -8);
        due("3: of(0, -1)", x.of(0, -1), BEYOND);
        due("3: of(0, 8)", x.of(0, 8), BEYOND);
        due("3: of(1, 0)", x.of(1, 0), BEYOND);
        due("3: of(-1, 0)", x.of(-1, 0), BEYOND);
        due("3: of(least, 0)", x.of(Integer.MIN_VALUE, 0), BEYOND);
        due("3: of(0, most)", x.of(0, Integer.MAX_VALUE), BEYOND);
    }

    private static void set() {
        OneFurrow x = new OneFurrow();
        x.field();
        x.field();
        int[] first = {0, 0, -1, -1, 0, 100};
        int[] least = {0, 0, -1, -1, 0, 0};
        int[] most = {ALL, ALL, 15, 15, 99, 999};
        for (int what = 0; what < 6; what++) {
            due("4: set the most, " + what, x.set(0, what, most[what]), first[what]);
            due("4: it is so, " + what, x.of(0, what), most[what]);
            due("4: set the least, " + what, x.set(0, what, least[what]), most[what]);
            due("4: it is so, " + what, x.of(0, what), least[what]);
            due("4: the other field stays, " + what, x.of(1, what), first[what]);
        }
        x.set(1, 0, 3);
        x.set(1, 1, 5);
        due("4: a cell may be both, stones", x.of(1, 0), 3);
        due("4: a cell may be both, trees", x.of(1, 1), 5);
    }

    private static void setBeyond() {
        OneFurrow x = new OneFurrow();
        due("4: set without fields", x.set(0, 0, 0), BEYOND);
        x.field();
        int[] least = {0, 0, -1, -1, 0, 0};
        int[] most = {ALL, ALL, 15, 15, 99, 999};
        for (int what = 0; what < 6; what++) {
            int was = x.of(0, what);
            due("4: below the least, " + what, x.set(0, what, least[what] - 1), BEYOND);
            due("4: above the most, " + what, x.set(0, what, most[what] + 1), BEYOND);
            due("4: nothing changed, " + what, x.of(0, what), was);
        }
        due("4: set(0, 6, 0)", x.set(0, 6, 0), BEYOND);
        due("4: set(0, 7, 0)", x.set(0, 7, 0), BEYOND);
        due("4: set(0, -1, 0)", x.set(0, -1, 0), BEYOND);
        due("4: set(1, 0, 0)", x.set(1, 0, 0), BEYOND);
        due("4: set(-1, 0, 0)", x.set(-1, 0, 0), BEYOND);
        due("4: status(0)", x.status(0), 18);
    }

    private static void join() {
        OneFurrow x = new OneFurrow();
        due("5: join without fields", x.join(0, 1, true), BEYOND);
        x.field();
        x.field();
        due("5: join(0, 1, true)", x.join(0, 1, true), 1);
        due("5: join(0, 1, true) again", x.join(0, 1, true), 0);
        due("5: one way only", x.joined(1), 0);
        due("5: join(1, 0, false)", x.join(1, 0, false), 0);
        due("5: join(0, 1, false)", x.join(0, 1, false), 1);
        due("5: join(0, 1, false) again", x.join(0, 1, false), 0);
        due("5: join(0, 0, true)", x.join(0, 0, true), BEYOND);
        due("5: join(0, 0, false)", x.join(0, 0, false), BEYOND);
        due("5: join(0, 2, true)", x.join(0, 2, true), BEYOND);
        due("5: join(2, 0, true)", x.join(2, 0, true), BEYOND);
        due("5: join(-1, 0, true)", x.join(-1, 0, true), BEYOND);
        due("5: join(0, -1, true)", x.join(0, -1, true), BEYOND);
        due("5: count(3)", x.count(3), 0);
    }

    private static void joined() {
        OneFurrow x = new OneFurrow();
        for (int i = 0; i < 6; i++) {
            x.field();
        }
        for (int i = 0; i < 5; i++) {
            x.join(5, i, true);
            x.join(i, 5, true);
        }
        due("6: joined(5)", x.joined(5), 0b11111);
        due("6: joined(0)", x.joined(0), 0b100000);
        due("6: joined(6)", x.joined(6), BEYOND);
        due("6: joined(-1)", x.joined(-1), BEYOND);
        due("6: count(3)", x.count(3), 10);
    }

    private static void team() {
        OneFurrow x = new OneFurrow();
        due("7: team(-1, 1)", x.team(-1, 1), BEYOND);
        due("7: team(6, 1)", x.team(6, 1), BEYOND);
        due("7: team(0, 0)", x.team(0, 0), BEYOND);
        due("7: team(0, 10)", x.team(0, 10), BEYOND);
        due("7: team(0, 1)", x.team(0, 1), 0);
        for (int i = 1; i < 6; i++) {
            due("7: team(5, 9)", x.team(5, 9), i);
        }
        due("7: a 7th", x.team(0, 1), FULL);
        due("7: BEYOND is asked ahead of FULL, pace", x.team(0, 10), BEYOND);
        due("7: BEYOND is asked ahead of FULL, kind", x.team(6, 1), BEYOND);
        due("7: count(1)", x.count(1), 6);
    }

    private static void teamOf() {
        OneFurrow x = new OneFurrow();
        due("8: teamOf without teams", x.teamOf(0, 0), BEYOND);
        int[] dear = {2, 1, 2, 3, 1, 6};
        for (int kind = 0; kind < 6; kind++) {
            x.team(kind, kind + 4);
            due("8: KIND", x.teamOf(kind, 0), kind);
            due("8: PACE", x.teamOf(kind, 1), kind + 4);
            due("8: DEAR of " + kind, x.teamOf(kind, 2), dear[kind]);
        }
        due("8: teamOf(0, 3)", x.teamOf(0, 3), BEYOND);
        due("8: teamOf(0, -1)", x.teamOf(0, -1), BEYOND);
        due("8: teamOf(6, 0)", x.teamOf(6, 0), BEYOND);
        due("8: teamOf(-1, 0)", x.teamOf(-1, 0), BEYOND);
    }

    private static void pace() {
        OneFurrow x = new OneFurrow();
        due("9: pace without teams", x.pace(0, 1), BEYOND);
        x.team(0, 4);
        x.team(0, 5);
        due("9: pace(0, 9)", x.pace(0, 9), 4);
        due("9: pace(0, 1)", x.pace(0, 1), 9);
        due("9: pace(0, 0)", x.pace(0, 0), BEYOND);
        due("9: pace(0, 10)", x.pace(0, 10), BEYOND);
        due("9: pace(2, 1)", x.pace(2, 1), BEYOND);
        due("9: pace(-1, 1)", x.pace(-1, 1), BEYOND);
        due("9: it stays", x.teamOf(0, 1), 1);
        due("9: so does the other", x.teamOf(1, 1), 5);
    }

    private static void as() {
        OneFurrow x = new OneFurrow();
        due("10: as without teams", x.as(0, 0), BEYOND);
        int[] dear = {2, 1, 2, 3, 1, 6};
        String[] under = {"0", "01", "02", "03", "014", "035"};
        for (int kind = 0; kind < 6; kind++) {
            x.team(kind, 1);
            for (int other = 0; other < 6; other++) {
                boolean is = under[kind].indexOf('0' + other) >= 0;
                due("10: as(" + kind + ", " + other + ")", x.as(kind, other), is ? dear[kind] : KIND);
            }
        }
        due("10: as(0, 6)", x.as(0, 6), BEYOND);
        due("10: as(0, -1)", x.as(0, -1), BEYOND);
        due("10: as(6, 0)", x.as(6, 0), BEYOND);
        due("10: as(-1, 0)", x.as(-1, 0), BEYOND);
        due("10: status(2)", x.status(2), 23);
    }

    private static OneFurrow oneOfEachKind() {
        OneFurrow x = new OneFurrow();
        x.field();
        for (int kind = 0; kind < 6; kind++) {
            x.team(kind, 1);
        }
        return x;
    }

    private static void mayByTurns() {
        // By kind, for a step straight on, to the right, back, to the left: behind no turn, then behind one.
        String[] due = {"1111 1111", "1011 1011", "1110 1110", "1111 1000", "1011 1011", "1111 1000"};
        for (int kind = 0; kind < 6; kind++) {
            OneFurrow x = oneOfEachKind();
            for (int before = 0; before < 4; before++) {
                for (int turn = 0; turn < 4; turn++) {
                    int direction = (before + turn) % 4;
                    String call = "11: may(" + kind + ", 0, 5, " + before + ", " + direction + ")";
                    due(call, x.may(kind, 0, 5, before, direction, false), due[kind].charAt(turn) - '0');
                    due(call + " turned", x.may(kind, 0, 5, before, direction, true), due[kind].charAt(turn + 5) - '0');
                }
            }
            for (int direction = 0; direction < 4; direction++) {
                due("11: it begins", x.may(kind, 0, 5, -1, direction, false), 1);
                due("11: it begins, turned", x.may(kind, 0, 5, -1, direction, true), 1);
            }
        }
    }

    private static void mayByTrees() {
        OneFurrow x = oneOfEachKind();
        x.set(0, 1, 1 << 7 | 1 << 12);
        String beside = ",3,6,11,8,13,";
        for (int cell = 0; cell < 16; cell++) {
            boolean shuns = beside.indexOf("," + cell + ",") >= 0;
            for (int kind = 0; kind < 6; kind++) {
                int want = kind == 4 && shuns ? 0 : 1;
                due("11: onto " + cell + " by " + kind, x.may(kind, 0, cell, 1, 1, false), want);
                due("11: begins onto " + cell + " by " + kind, x.may(kind, 0, cell, -1, 1, false), want);
            }
        }
        x.set(0, 1, 0);
        x.set(0, 0, ALL);
        due("11: stones aren't asked", x.may(4, 0, 6, -1, 0, false), 1);
        due("11: nor what is outside", x.may(0, 0, 0, -1, 1, false), 1);
    }

    private static void mayBeyond() {
        OneFurrow x = oneOfEachKind();
        due("11: team -1", x.may(-1, 0, 0, 0, 0, false), BEYOND);
        due("11: team 6", x.may(6, 0, 0, 0, 0, false), BEYOND);
        due("11: field -1", x.may(0, -1, 0, 0, 0, false), BEYOND);
        due("11: field 1", x.may(0, 1, 0, 0, 0, false), BEYOND);
        due("11: cell -1", x.may(0, 0, -1, 0, 0, false), BEYOND);
        due("11: cell 16", x.may(0, 0, 16, 0, 0, false), BEYOND);
        due("11: before -2", x.may(0, 0, 0, -2, 0, false), BEYOND);
        due("11: before 4", x.may(0, 0, 0, 4, 0, false), BEYOND);
        due("11: direction -1", x.may(0, 0, 0, 0, -1, false), BEYOND);
        due("11: direction 4", x.may(0, 0, 0, 0, 4, false), BEYOND);
        due("11: the edges", x.may(5, 0, 15, 3, 3, true), 1);
    }
}
