/** Promises 12 to 18: the best furrow, how many, what bars it, what is missed, stones, gates, whose. */
public final class FurrowsTest {
    private static final long BEYOND = -1000000001L;
    private static final long NONE = -1000000004L;
    private static final int ALL = 0xFFFF;
    private static final int STONES = 0;
    private static final int TREES = 1;
    private static final int IN = 2;
    private static final int OUT = 3;
    private static int wrong = 0;

    private static void due(String call, long got, long want) {
        if (got != want) {
            wrong++;
            System.out.println(call + " answered " + got + ", due is " + want);
        }
    }

    private static int cells(int... cells) {
        int set = 0;
        for (int cell : cells) {
            set |= 1 << cell;
        }
        return set;
    }

    /** A field whose earth is just these cells, and a team of each kind with pace 1. */
    private static OneFurrow earth(int... cells) {
        OneFurrow x = new OneFurrow();
        x.field();
        x.set(0, STONES, ALL & ~cells(cells));
        for (int kind = 0; kind < 6; kind++) {
            x.team(kind, 1);
        }
        return x;
    }

    private static OneFurrow wholeField() {
        return earth(0, 1, 2, 3, 4, 5, 6, 7, 8, 9, 10, 11, 12, 13, 14, 15);
    }

    private static void dueRow(String call, OneFurrow x, int team, int... cells) {
        for (int i = 0; i < cells.length; i++) {
            due(call + ", cell " + i, x.best(team, 0, i), cells[i]);
        }
        for (int i = cells.length; i < 16; i++) {
            due(call + ", no cell " + i, x.best(team, 0, i), NONE);
        }
    }

    public static void main(String[] args) {
        bestOfWholeField();
        bestByKinds();
        bestWithGates();
        bestBeyond();
        many();
        barred();
        missed();
        missedWithGates();
        stone();
        stoneUnderTree();
        gate();
        whose();
        System.out.println(wrong == 0 ? "all answers are as due" : wrong + " answers are not as due");
        if (wrong != 0) {
            System.exit(1);
        }
    }

    private static void bestOfWholeField() {
        OneFurrow x = wholeField();
        due("12: COST", x.best(0, 0, -1), 28);
        due("12: TURNS", x.best(0, 0, -2), 6);
        dueRow("12: TEAM", x, 0, 0, 1, 2, 3, 7, 6, 5, 4, 8, 9, 10, 11, 15, 14, 13, 12);
        dueRow("12: RIGHT", x, 2, 0, 1, 2, 3, 7, 11, 15, 14, 13, 12, 8, 4, 5, 6, 10, 9);
        due("12: LEFT begins elsewhere", x.best(1, 0, 0), 0);
        due("12: LEFT goes down", x.best(1, 0, 1), 4);
        due("12: COST of LEFT", x.best(1, 0, -1), 22);
        x.pace(0, 9);
        due("12: COST by pace", x.best(0, 0, -1), 16 * 9 + 12);
    }

    private static void bestByKinds() {
        OneFurrow x = earth(0, 1, 2, 6, 10);
        for (int kind = 0; kind < 6; kind++) {
            due("12: one turn, both ways, " + kind, x.best(kind, 0, -2), 1);
        }
        dueRow("12: TEAM from 0", x, 0, 0, 1, 2, 6, 10);
        dueRow("12: LEFT from 10", x, 1, 10, 6, 2, 1, 0);
        dueRow("12: RIGHT from 0", x, 2, 0, 1, 2, 6, 10);
        due("12: COST of TEAM", x.best(0, 0, -1), 7);
        due("12: COST of LEFT", x.best(1, 0, -1), 6);
        due("12: COST of RIGHT", x.best(2, 0, -1), 7);
        due("12: COST of WIDE", x.best(3, 0, -1), 8);
        due("12: COST of SHY", x.best(4, 0, -1), 6);
        due("12: COST of SLOW", x.best(5, 0, -1), 11);
        OneFurrow corner = earth(0, 1, 5, 6);
        due("12: a turn right behind a turn", corner.best(0, 0, -2), 2);
        due("12: WIDE may not", corner.best(3, 0, -1), NONE);
        due("12: nor SLOW", corner.best(5, 0, -1), NONE);
        due("12: nor LEFT", corner.best(1, 0, -1), NONE);
        OneFurrow trees = earth(0, 1, 2, 3);
        trees.set(0, TREES, cells(7));
        dueRow("12: SHY begins beside a tree", trees, 4, 3, 2, 1, 0);
        dueRow("12: LEFT doesn't mind", trees, 1, 0, 1, 2, 3);
        trees.set(0, TREES, cells(6));
        due("12: SHY may not", trees.best(4, 0, -1), NONE);
        trees.set(0, TREES, cells(2));
        due("12: a tree is no earth", trees.best(0, 0, -1), NONE);
    }

    private static void bestWithGates() {
        OneFurrow x = wholeField();
        x.set(0, IN, 12);
        due("12: from IN", x.best(0, 0, 0), 12);
        due("12: still 6 turns", x.best(0, 0, -2), 6);
        due("12: up first", x.best(0, 0, 1), 8);
        x.set(0, OUT, 15);
        dueRow("12: to OUT", x, 0, 12, 8, 4, 0, 1, 5, 9, 13, 14, 10, 6, 2, 3, 7, 11, 15);
        x.set(0, OUT, 12);
        due("12: IN is OUT", x.best(0, 0, -1), NONE);
        x.set(0, OUT, -1);
        x.set(0, STONES, cells(12));
        due("12: IN is a stone", x.best(0, 0, -1), NONE);
        x.set(0, STONES, ALL);
        x.set(0, IN, -1);
        due("12: no earth", x.best(0, 0, -1), NONE);
    }

    private static void bestBeyond() {
        OneFurrow x = wholeField();
        due("12: what -3", x.best(0, 0, -3), BEYOND);
        due("12: what 16", x.best(0, 0, 16), BEYOND);
        due("12: team 6", x.best(6, 0, 0), BEYOND);
        due("12: team -1", x.best(-1, 0, 0), BEYOND);
        due("12: field 1", x.best(0, 1, 0), BEYOND);
        due("12: field -1", x.best(0, -1, 0), BEYOND);
        x.set(0, STONES, ALL);
        due("12: BEYOND ahead of NONE", x.best(0, 0, 16), BEYOND);
        due("12: status(0)", x.status(0), 7);
    }

    private static void many() {
        OneFurrow x = wholeField();
        int[] due = {552, 12, 12, 0, 12, 0};
        for (int kind = 0; kind < 6; kind++) {
            due("13: many by " + kind, x.many(kind, 0), due[kind]);
        }
        x.set(0, IN, 0);
        due("13: from a corner", x.many(0, 0), 52);
        due("13: one cell", earth(9).many(0, 0), 1);
        due("13: two cells, both ways", earth(9, 10).many(0, 0), 2);
        due("13: two cells apart", earth(9, 11).many(0, 0), 0);
        due("13: a square", earth(0, 1, 4, 5).many(0, 0), 8);
        due("13: a square, LEFT", earth(0, 1, 4, 5).many(1, 0), 4);
        due("13: a square, WIDE", earth(0, 1, 4, 5).many(3, 0), 0);
        due("13: a row's end and the next one's beginning aren't beside", earth(3, 4).many(0, 0), 0);
        OneFurrow none = earth();
        due("13: no earth", none.many(0, 0), 0);
        due("13: many(6, 0)", none.many(6, 0), BEYOND);
        due("13: many(-1, 0)", none.many(-1, 0), BEYOND);
        due("13: many(0, 1)", none.many(0, 1), BEYOND);
        due("13: many(0, -1)", none.many(0, -1), BEYOND);
    }

    private static void dueBarred(String call, OneFurrow x, int in, int out, int want) {
        x.set(0, IN, in);
        x.set(0, OUT, out);
        due("14: " + call + ", in " + in + ", out " + out, x.barred(0), want);
    }

    private static void barred() {
        OneFurrow x = earth(0, 1);
        dueBarred("colours 0", x, -1, -1, 0);
        dueBarred("colours 0", x, 0, -1, 0);
        dueBarred("colours 0", x, -1, 1, 0);
        dueBarred("colours 0, unlike", x, 0, 1, 0);
        dueBarred("colours 0, unlike", x, 1, 0, 0);
        dueBarred("colours 0, both even", x, 0, 5, 2);
        dueBarred("colours 0, both even", x, 5, 0, 2);
        dueBarred("colours 0, both odd", x, 1, 4, 2);
        x = earth(0, 1, 2);
        dueBarred("colours 1", x, -1, -1, 0);
        dueBarred("colours 1", x, 0, -1, 0);
        dueBarred("colours 1", x, 0, 2, 0);
        dueBarred("colours 1", x, 1, -1, 2);
        dueBarred("colours 1", x, -1, 1, 2);
        dueBarred("colours 1", x, 0, 1, 2);
        dueBarred("colours 1, elsewhere", x, 15, -1, 0);
        x = earth(4, 5, 6);
        dueBarred("colours -1", x, -1, -1, 0);
        dueBarred("colours -1", x, 4, 6, 0);
        dueBarred("colours -1", x, 5, -1, 2);
        dueBarred("colours -1", x, 4, 5, 2);
        dueBarred("colours 2", earth(0, 2), 1, 1, 1);
        dueBarred("colours -2", earth(1, 3), -1, -1, 1);
        dueBarred("no earth", earth(), 0, 0, 0);
        due("14: barred(1)", x.barred(1), BEYOND);
        due("14: barred(-1)", x.barred(-1), BEYOND);
    }

    private static void missed() {
        OneFurrow x = wholeField();
        int[] due = {0, 0, 0, 1, 0, 1};
        for (int kind = 0; kind < 6; kind++) {
            due("15: missed by " + kind, x.missed(kind, 0), due[kind]);
        }
        due("15: a cross", earth(1, 4, 5, 6, 9).missed(0, 0), 2);
        due("15: apart", earth(0, 3, 7, 12).missed(0, 0), 2);
        due("15: one cell", earth(6).missed(3, 0), 0);
        due("15: a square, WIDE", earth(0, 1, 4, 5).missed(3, 0), 1);
        OneFurrow shy = earth(0, 1, 2, 3);
        shy.set(0, TREES, cells(6));
        due("15: SHY begins beside the tree", shy.missed(4, 0), 1);
        due("15: no earth", earth().missed(0, 0), NONE);
        due("15: missed(6, 0)", x.missed(6, 0), BEYOND);
        due("15: missed(-1, 0)", x.missed(-1, 0), BEYOND);
        due("15: missed(0, 1)", x.missed(0, 1), BEYOND);
        due("15: missed(0, -1)", x.missed(0, -1), BEYOND);
    }

    private static void missedWithGates() {
        OneFurrow x = earth(0, 1, 2, 3, 15);
        x.set(0, IN, 1);
        due("15: from IN on", x.missed(0, 0), 2);
        x.set(0, OUT, 0);
        due("15: to OUT", x.missed(0, 0), 3);
        x.set(0, IN, -1);
        due("15: to OUT, from anywhere", x.missed(0, 0), 1);
        x.set(0, OUT, 15);
        due("15: to OUT alone", x.missed(0, 0), 4);
        x.set(0, IN, 0);
        due("15: OUT isn't come to", x.missed(0, 0), NONE);
        x.set(0, OUT, 5);
        due("15: OUT is a stone", x.missed(0, 0), NONE);
        x.set(0, OUT, -1);
        x.set(0, IN, 5);
        due("15: IN is a stone", x.missed(0, 0), NONE);
        x.set(0, IN, 2);
        x.set(0, OUT, 2);
        due("15: IN is OUT", x.missed(0, 0), 4);
    }

    private static void stone() {
        OneFurrow x = earth(0, 1, 3);
        due("16: between", x.stone(0, 0), 2);
        due("16: no stone lets it be", earth(0, 3).stone(0, 0), NONE);
        due("16: of several the least", earth(5).stone(0, 0), 1);
        due("16: straight on is cheaper", earth(5, 6, 10, 11).stone(3, 0), NONE);
        due("16: straight on is cheaper", earth(8, 9, 10).stone(0, 0), 11);
        due("16: LEFT too", earth(9, 10).stone(1, 0), 8);
        OneFurrow gates = earth(5);
        gates.set(0, IN, 9);
        due("16: IN is the stone", gates.stone(0, 0), 9);
        due("16: no stones", wholeField().stone(0, 0), NONE);
        due("16: only stones", earth().stone(0, 0), 0);
        due("16: stone(6, 0)", x.stone(6, 0), BEYOND);
        due("16: stone(-1, 0)", x.stone(-1, 0), BEYOND);
        due("16: stone(0, 1)", x.stone(0, 1), BEYOND);
        due("16: stone(0, -1)", x.stone(0, -1), BEYOND);
        due("16: the stones stay", x.of(0, STONES), ALL & ~cells(0, 1, 3));
    }

    private static void stoneUnderTree() {
        OneFurrow x = earth(0, 1, 2);
        x.set(0, TREES, cells(15));
        due("16: a tree stays, and no cell more is to be ploughed", x.stone(0, 0), 15);
        x.set(0, TREES, cells(7));
        due("16: beside a tree SHY doesn't go", x.stone(4, 0), 7);
    }

    private static void gate() {
        OneFurrow x = wholeField();
        due("17: IN anywhere", x.gate(0, 0, 2), 0);
        due("17: OUT anywhere", x.gate(0, 0, 3), 0);
        x.set(0, OUT, 0);
        due("17: IN for OUT 0", x.gate(0, 0, 2), 1);
        due("17: OUT as it were not told", x.gate(0, 0, 3), 0);
        x.set(0, IN, 5);
        due("17: IN as it were not told", x.gate(0, 0, 2), 1);
        due("17: IN stays", x.of(0, IN), 5);
        due("17: OUT stays", x.of(0, OUT), 0);
        OneFurrow row = earth(4, 5, 6, 7);
        row.set(0, IN, 7);
        due("17: OUT for IN 7", row.gate(0, 0, 3), 4);
        row.set(0, IN, 5);
        due("17: no OUT for IN 5", row.gate(0, 0, 3), NONE);
        row.set(0, IN, 0);
        due("17: IN is a stone", row.gate(0, 0, 3), NONE);
        due("17: another IN is looked for", row.gate(0, 0, 2), 4);
        due("17: no earth", earth().gate(0, 0, 2), NONE);
        due("17: what 1", x.gate(0, 0, 1), BEYOND);
        due("17: what 4", x.gate(0, 0, 4), BEYOND);
        due("17: gate(6, 0, 2)", x.gate(6, 0, 2), BEYOND);
        due("17: gate(-1, 0, 2)", x.gate(-1, 0, 2), BEYOND);
        due("17: gate(0, 1, 2)", x.gate(0, 1, 2), BEYOND);
        due("17: gate(0, -1, 2)", x.gate(0, -1, 2), BEYOND);
    }

    private static void whose() {
        OneFurrow x = wholeField();
        due("18: LEFT turns cheaper than TEAM", x.whose(0), 1);
        x.pace(1, 2);
        due("18: SHY is as cheap", x.whose(0), 4);
        x.pace(4, 2);
        due("18: of TEAM and RIGHT the least", x.whose(0), 0);
        x.pace(0, 2);
        due("18: RIGHT", x.whose(0), 2);
        x.set(0, STONES, ALL);
        due("18: no earth", x.whose(0), NONE);
        due("18: whose(1)", x.whose(1), BEYOND);
        due("18: whose(-1)", x.whose(-1), BEYOND);
        OneFurrow none = new OneFurrow();
        none.field();
        due("18: no teams", none.whose(0), NONE);
    }
}
