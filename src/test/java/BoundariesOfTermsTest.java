/**
 * 'Terms' of the document: each sentence that names a boundary, quoted, with a test of its own.
 * (That an act with a finding changes nothing but status() is in RefusedCallsTest.)
 */
public final class BoundariesOfTermsTest {
    private static final long BEYOND = -1000000001L;
    private static final long FULL = -1000000002L;
    private static final long KIND = -1000000003L;
    private static final long NONE = -1000000004L;
    private static final long MISSING = -1000000006L;
    private static final long SIZE = -1000000007L;
    private static final int ALL = 0xFFFF;
    private static final int STONES = 0;
    private static final int TREES = 1;
    private static final int IN = 2;
    private static final int OUT = 3;
    private static final int WET = 4;
    private static final int WORTH = 5;
    private static final int TEAM = 0;
    private static final int LEFT = 1;
    private static final int RIGHT = 2;
    private static final int WIDE = 3;
    private static final int SHY = 4;
    private static final int SLOW = 5;
    private static String sentence = "";
    private static int wrong = 0;

    private static void due(String call, long got, long want) {
        if (got != want) {
            wrong++;
            System.out.println("\"" + sentence + "\": " + call + " answered " + got + ", due is " + want);
        }
    }

    public static void main(String[] args) {
        whatItIs();
        findings();
        sectionOneFields();
        sectionOneTeams();
        sectionOneFurrows();
        sectionOneMay();
        textTokens();
        textFields();
        textJoinsAndTeams();
        textFaults();
        sectionTwoFurrows();
        sectionTwoLines();
        sectionThree();
        System.out.println(wrong == 0 ? "all answers are as due" : wrong + " answers are not as due");
        if (wrong != 0) {
            System.exit(1);
        }
    }

    private static int cells(int... cells) {
        int set = 0;
        for (int cell : cells) {
            set |= 1 << cell;
        }
        return set;
    }

    /** A field whose earth is just these cells, and a team of each kind with pace 1. */
    private static OneFurrow earth(int... cells) {
        OneFurrow x = new OneFurrow();
        x.field();
        x.set(0, STONES, ALL & ~cells(cells));
        for (int kind = 0; kind < 6; kind++) {
            x.team(kind, 1);
        }
        return x;
    }

    private static OneFurrow wholeField() {
        OneFurrow x = earth();
        x.set(0, STONES, 0);
        return x;
    }

    /** Fields of a straight row of so many cells each, joined in their order, and a TEAM of a pace. */
    private static OneFurrow chain(int pace, int... cells) {
        OneFurrow x = new OneFurrow();
        x.team(TEAM, pace);
        for (int i = 0; i < cells.length; i++) {
            x.field();
            x.set(i, STONES, ALL & ~((1 << cells[i]) - 1));
            x.join(i - 1, i, true);
        }
        return x;
    }

    private static void fill(OneFurrow x, int s, int bits, long... numbers) {
        x.sheet(s, bits, numbers.length);
        for (int i = 0; i < numbers.length; i++) {
            x.write(s, i, numbers[i]);
        }
    }

    private static boolean areBeside(int a, int b) {
        return Math.abs(a / 4 - b / 4) + Math.abs(a % 4 - b % 4) == 1;
    }

    // ---- what it is, and the findings

    private static void whatItIs() {
        sentence = "An object is used for at most 512 calls after it has been made";
        OneFurrow x = new OneFurrow();
        x.field();
        x.team(TEAM, 1);
        for (int i = 3; i <= 508; i++) {
            x.of(9, 0);
        }
        due("the 509th call, best(0, 0, -1)", x.best(0, 0, -1), 28);
        due("the 510th, team(5, 9)", x.team(SLOW, 9), 1);
        due("the 511th, teamOf(1, 2)", x.teamOf(1, 2), 6);
        due("the 512th, status(0)", x.status(0), 506);
    }

    private static void findings() {
        sentence = "FINDINGS are answers below -1000000000: .. (in longs, too)";
        OneFurrow x = new OneFurrow();
        due("BEYOND", x.of(0, 0), -1000000001L);
        for (int i = 0; i < 6; i++) {
            x.field();
        }
        due("FULL", x.field(), -1000000002L);
        x.team(TEAM, 1);
        due("KIND", x.as(0, LEFT), -1000000003L);
        due("NONE", x.undo(), -1000000004L);
        due("MISSING", x.read(0, 0, 0), -1000000006L);
        due("SIZE", x.sheet(0, 8, -1), -1000000007L);
        due("MISSING, a long", x.write(0, 0, 0L), -1000000006L);
        due("BEYOND, a long", x.write(4, 0, 0L), -1000000001L);

        sentence = "Each act tells its findings in the order in which they are asked";
        due("copy(): no such sheet, a missing one", x.copy(4, -1, 0, 0, 1), BEYOND);
        due("copy(): a missing one, n below 0", x.copy(0, -1, 1, 0, 1), MISSING);
        x.sheet(0, 8, 1);
        x.sheet(1, 16, 1);
        due("copy(): other bits, n below 0", x.copy(0, 0, 1, 0, -1), KIND);
        due("sheet(): other bits, n below 0", x.sheet(0, 9, -1), BEYOND);
        due("late(): what 6, no LINE", x.late(0, 6), BEYOND);

        sentence = "Sets are told by bits.";
        x.set(0, STONES, 1);
        x.set(0, TREES, 1 << 15);
        due("EARTH without the first and the last", x.of(0, 6), 0x7FFE);
        x.join(0, 5, true);
        x.join(5, 0, true);
        due("joined(0) to the last", x.joined(0), 32);
        due("joined(5) to the first", x.joined(5), 1);
    }

    // ---- section 1

    private static void sectionOneFields() {
        sentence = "FIELDS 0, 1, .. (at most 6)";
        OneFurrow x = new OneFurrow();
        for (int i = 0; i < 6; i++) {
            due("field()", x.field(), i);
        }
        due("a 7th", x.field(), FULL);

        sentence = "CELL 4 times its ROW and its COLUMN (0 to 3 each) .. CELLS in a DIRECTION from one another are BESIDE";
        x = earth();
        for (int a = 0; a < 16; a++) {
            for (int b = a + 1; b < 16; b++) {
                x.set(0, STONES, ALL & ~cells(a, b));
                due("many() of " + a + " and " + b, x.many(TEAM, 0), areBeside(a, b) ? 2 : 0);
            }
        }
        x = earth();
        for (int tree = 0; tree < 16; tree++) {
            x.set(0, TREES, cells(tree));
            for (int cell = 0; cell < 16; cell++) {
                due("SHY onto " + cell + ", a tree on " + tree, x.may(SHY, 0, cell, 0, 0, false), areBeside(tree, cell) ? 0 : 1);
            }
        }

        sentence = "STONES, TREES: sets of CELLS (none at first; one may be both); EARTH are all others.";
        x = new OneFurrow();
        x.field();
        due("STONES at first", x.of(0, STONES), 0);
        due("TREES at first", x.of(0, TREES), 0);
        due("EARTH at first", x.of(0, 6), ALL);
        x.set(0, STONES, cells(3, 4));
        x.set(0, TREES, cells(4, 5));
        due("STONES, one a tree too", x.of(0, STONES), cells(3, 4));
        due("TREES, one a stone too", x.of(0, TREES), cells(4, 5));
        due("EARTH without them", x.of(0, 6), ALL & ~cells(3, 4, 5));
        x.set(0, STONES, 0);
        due("what was both is a tree", x.of(0, 6), ALL & ~cells(4, 5));
        x.set(0, TREES, ALL);
        due("no EARTH", x.of(0, 6), 0);

        sentence = "GATES: IN and OUT, each a CELL or none (-1, at first).";
        x = new OneFurrow();
        x.field();
        for (int what = IN; what <= OUT; what++) {
            due("none at first", x.of(0, what), -1);
            due("the last CELL", x.set(0, what, 15), -1);
            due("the first CELL", x.set(0, what, 0), 15);
            due("none", x.set(0, what, -1), 0);
            due("less than none", x.set(0, what, -2), BEYOND);
            due("no CELL", x.set(0, what, 16), BEYOND);
            due("it stays none", x.of(0, what), -1);
        }

        sentence = "WET: a DAY (0 to 99; 0 at first) ahead of which it isn't ploughed.";
        x = chain(1, 1);
        due("at first", x.of(0, WET), 0);
        due("ploughed on DAY 0", x.done(0, 0), 0);
        due("DAY 99", x.set(0, WET, 99), 0);
        due("ploughed on DAY 99", x.done(0, 0), 99);
        due("DAY 100", x.set(0, WET, 100), BEYOND);
        due("DAY -1", x.set(0, WET, -1), BEYOND);
        due("DAY 0", x.set(0, WET, 0), 99);
        due("ploughed on DAY 0 again", x.done(0, 0), 0);

        sentence = "WORTH (0 to 999; 100 at first).";
        due("at first", x.of(0, WORTH), 100);
        due("the most", x.set(0, WORTH, 999), 100);
        due("above it", x.set(0, WORTH, 1000), BEYOND);
        due("the least", x.set(0, WORTH, 0), 999);
        due("below it", x.set(0, WORTH, -1), BEYOND);
        due("it stays", x.of(0, WORTH), 0);

        sentence = "JOINED are two FIELDS one way or not (at first)";
        x = new OneFurrow();
        x.field();
        x.field();
        due("at first", x.joined(0) + x.joined(1), 0);
        x.join(1, 0, true);
        due("one way", x.joined(1), 1);
        due("not the other way", x.joined(0), 0);
    }

    private static void sectionOneTeams() {
        sentence = "TEAMS 0, 1, .. (at most 6) are of KINDS: 0 TEAM .. 5 SLOW";
        OneFurrow x = new OneFurrow();
        due("no kind below 0", x.team(-1, 1), BEYOND);
        due("no kind above 5", x.team(6, 1), BEYOND);
        for (int kind = 0; kind < 6; kind++) {
            due("team(" + kind + ", 1)", x.team(kind, 1), kind);
        }
        due("a 7th", x.team(TEAM, 1), FULL);

        sentence = "1 LEFT under TEAM, 2 RIGHT under TEAM, 3 WIDE under TEAM, 4 SHY under LEFT, 5 SLOW under WIDE";
        String[] kindsOf = {"0", "0 1", "0 2", "0 3", "0 1 4", "0 3 5"};
        int[] dear = {2, 1, 2, 3, 1, 6};
        for (int team = 0; team < 6; team++) {
            for (int kind = 0; kind < 6; kind++) {
                boolean is = kindsOf[team].indexOf('0' + kind) >= 0;
                due("as(" + team + ", " + kind + ")", x.as(team, kind), is ? dear[team] : KIND);
            }
        }

        sentence = "each with a PACE (1 to 9)";
        x = new OneFurrow();
        due("0", x.team(TEAM, 0), BEYOND);
        due("10", x.team(TEAM, 10), BEYOND);
        due("1", x.team(TEAM, 1), 0);
        due("9", x.team(TEAM, 9), 1);
        due("from 1 to 9", x.pace(0, 9), 1);
        due("from 9 to 1", x.pace(1, 1), 9);
        due("to 0", x.pace(0, 0), BEYOND);
        due("to 10", x.pace(0, 10), BEYOND);

        sentence = "COST of a FURROW: PACE for each CELL, and DEAR for each TURN.";
        x = earth(5);
        for (int kind = 0; kind < 6; kind++) {
            x.pace(kind, 9);
            due("one CELL, no TURN, by " + kind, x.best(kind, 0, -1), 9);
        }
        x = earth(0, 1, 2, 6, 10);
        for (int kind = 0; kind < 6; kind++) {
            due("one TURN by " + kind, x.best(kind, 0, -1), 5 + dear[kind]);
        }
        x = wholeField();
        x.pace(TEAM, 9);
        due("16 CELLS, 6 TURNS", x.best(TEAM, 0, -1), 16 * 9 + 6 * 2);
    }

    private static void sectionOneFurrows() {
        sentence = "a row of CELLS of EARTH, none twice, each BESIDE the one ahead";
        OneFurrow x = wholeField();
        fill(x, 0, 8, 0, 1, 0);
        due("twice", x.read(0, TEAM, 0), 3);
        fill(x, 0, 8, 0, 0);
        due("twice at once", x.read(0, TEAM, 0), 2);
        for (int a = 0; a < 16; a++) {
            for (int b = 0; b < 16; b++) {
                if (a != b && a % 4 + b % 4 == 3) {
                    fill(x, 0, 8, a, b);
                    due("from " + a + " to " + b, x.read(0, TEAM, 0), areBeside(a, b) ? 100 : 2);
                }
            }
        }

        sentence = "the first one IN, if that is told, the last one OUT, if that is told";
        x = earth(0, 1, 2);
        due("none told", x.many(TEAM, 0), 2);
        x.set(0, IN, 0);
        due("IN is CELL 0", x.many(TEAM, 0), 1);
        due("from it", x.best(TEAM, 0, 0), 0);
        x.set(0, IN, 1);
        due("IN between", x.many(TEAM, 0), 0);
        x.set(0, IN, -1);
        x.set(0, OUT, 0);
        due("OUT is CELL 0", x.many(TEAM, 0), 1);
        due("from the other end", x.best(TEAM, 0, 0), 2);
        x.set(0, OUT, 1);
        due("OUT between", x.many(TEAM, 0), 0);
        x.set(0, OUT, 2);
        due("OUT at the other end", x.many(TEAM, 0), 1);
        due("from this end", x.best(TEAM, 0, 0), 0);
        fill(x, 0, 8, 0, 1, 2);
        due("to OUT", x.read(0, TEAM, 0), 0);
        x.set(0, OUT, 0);
        due("not to OUT, which is CELL 0", x.read(0, TEAM, 0), 100);
        x.set(0, OUT, -1);
        x.set(0, IN, 0);
        fill(x, 0, 8, 2, 1, 0);
        due("not from IN, which is CELL 0", x.read(0, TEAM, 0), 1);
        x.set(0, OUT, 0);
        due("IN is OUT, three CELLS", x.many(TEAM, 0), 0);
        x = earth(15);
        x.set(0, IN, 15);
        x.set(0, OUT, 15);
        due("IN is OUT, one CELL", x.many(TEAM, 0), 1);

        sentence = "it is WHOLE if all of EARTH is in it";
        x = wholeField();
        x.sheet(0, 8, 16);
        x.draw(0, TEAM, 0);
        due("16 CELLS", x.read(0, TEAM, 0), 0);
        x.sheet(0, 8, 15);
        x.draw(0, TEAM, 0);
        due("15 CELLS of 16", x.read(0, TEAM, 0), 100);
        x.set(0, STONES, cells(x.best(TEAM, 0, 15)));
        due("15 CELLS of 15", x.read(0, TEAM, 0), 0);

        sentence = "(There is none without EARTH, nor if a told GATE is no EARTH.)";
        x = earth();
        dueNoFurrow("no EARTH", x);
        x.set(0, STONES, 0);
        x.set(0, TREES, ALL);
        dueNoFurrow("only trees", x);
        for (int gate = IN; gate <= OUT; gate++) {
            x = earth(0, 1);
            x.set(0, gate, 2);
            dueNoFurrow("GATE " + gate + " is a stone", x);
            x.set(0, STONES, ALL & ~cells(0, 1, 2));
            x.set(0, TREES, cells(2));
            dueNoFurrow("GATE " + gate + " is a tree", x);
            x.set(0, TREES, 0);
            due("GATE " + gate + " is EARTH", x.missed(TEAM, 0), 0);
        }
    }

    private static void dueNoFurrow(String why, OneFurrow x) {
        for (int kind = 0; kind < 6; kind++) {
            due("best(), " + why, x.best(kind, 0, -1), NONE);
            due("many(), " + why, x.many(kind, 0), 0);
            due("missed(), " + why, x.missed(kind, 0), NONE);
        }
    }

    private static void sectionOneMay() {
        sentence = "to the left if it is 3 more (by 4 the rest), to the right if 1 more";
        // From cell 5 a step in each direction, then one to the left of it and one to the right.
        int[][] left = {{5, 1, 0}, {5, 6, 2}, {5, 9, 10}, {5, 4, 8}};
        int[][] right = {{5, 1, 2}, {5, 6, 10}, {5, 9, 8}, {5, 4, 0}};
        OneFurrow x = wholeField();
        for (int direction = 0; direction < 4; direction++) {
            fill(x, 0, 8, left[direction][0], left[direction][1], left[direction][2]);
            due("LEFT to the left behind " + direction, x.read(0, LEFT, 0), 100);
            due("RIGHT to the left behind " + direction, x.read(0, RIGHT, 0), 3);
            fill(x, 0, 8, right[direction][0], right[direction][1], right[direction][2]);
            due("LEFT to the right behind " + direction, x.read(0, LEFT, 0), 3);
            due("RIGHT to the right behind " + direction, x.read(0, RIGHT, 0), 100);
        }
        due("LEFT, from 0 to 3", x.may(LEFT, 0, 5, 0, 3, false), 1);
        due("LEFT, from 3 to 0", x.may(LEFT, 0, 5, 3, 0, false), 0);
        due("RIGHT, from 0 to 3", x.may(RIGHT, 0, 5, 0, 3, false), 0);
        due("RIGHT, from 3 to 0", x.may(RIGHT, 0, 5, 3, 0, false), 1);

        sentence = "(back, if 2 more: neither, but a TURN)";
        for (int before = 0; before < 4; before++) {
            int back = (before + 2) % 4;
            due("LEFT", x.may(LEFT, 0, 5, before, back, false), 1);
            due("RIGHT", x.may(RIGHT, 0, 5, before, back, false), 1);
            due("WIDE", x.may(WIDE, 0, 5, before, back, false), 1);
            due("WIDE behind a TURN", x.may(WIDE, 0, 5, before, back, true), 0);
            due("SLOW behind a TURN", x.may(SLOW, 0, 5, before, back, true), 0);
        }

        sentence = "TEAM: any step.";
        for (int before = -1; before < 4; before++) {
            for (int direction = 0; direction < 4; direction++) {
                due("from " + before + " to " + direction, x.may(TEAM, 0, 5, before, direction, true), 1);
            }
        }

        sentence = "WIDE: as TEAM, but no TURN right behind a TURN (a step straight on is between).";
        x = earth(0, 1, 5, 6);
        due("no step between", x.many(WIDE, 0), 0);
        due("SLOW as WIDE", x.many(SLOW, 0), 0);
        due("TEAM", x.many(TEAM, 0), 2);
        x = earth(0, 1, 5, 9, 10);
        due("a step between", x.many(WIDE, 0), 2);
        due("SLOW as WIDE", x.many(SLOW, 0), 2);
        due("straight on behind a TURN", x.may(WIDE, 0, 5, 1, 1, true), 1);
        due("the first step is no TURN", x.may(WIDE, 0, 5, -1, 1, true), 1);

        sentence = "SHY: as LEFT, but onto no CELL BESIDE a TREE (it may begin there).";
        x = earth(0, 1);
        x.set(0, TREES, cells(4));
        due("it begins there", x.many(SHY, 0), 1);
        due("at CELL 0", x.best(SHY, 0, 0), 0);
        due("LEFT goes there, too", x.many(LEFT, 0), 2);
        x.set(0, TREES, cells(4, 5));
        due("both are BESIDE a TREE", x.many(SHY, 0), 0);
        x.set(0, STONES, ALL & ~cells(0));
        due("it begins and ends there", x.many(SHY, 0), 1);
        x = earth(0, 1, 5);
        due("as LEFT", x.best(SHY, 0, 0), 5);
        due("no TURN to the right", x.many(SHY, 0), 1);
        x = earth(0, 1);
        x.set(0, TREES, cells(6, 8));
        due("a TREE aslant", x.many(SHY, 0), 2);
        x.set(0, STONES, ALL);
        due("a STONE is no TREE", x.may(SHY, 0, 1, -1, 1, false), 1);
    }

    // ---- the text of a parish

    private static void feed(OneFurrow x, String text) {
        for (int i = 0; i < text.length(); i++) {
            x.feed(text.charAt(i), 1);
        }
    }

    /** How many items a text has, or -1 less the place of its fault, where nothing is yet. */
    private static OneFurrow dueText(String text, int want) {
        OneFurrow x = new OneFurrow();
        dueText(x, text, want);
        return x;
    }

    private static void dueText(OneFurrow x, String text, int want) {
        feed(x, text);
        due("parish() of '" + text + "'", x.parish(), want);
    }

    private static void dueFault(String text, int place) {
        dueText(text, -1 - place);
    }

    private static void textTokens() {
        sentence = "THE TAPE (bytes, at most 120).";
        OneFurrow x = new OneFurrow();
        feed(x, "field" + " ".repeat(110) + ";left");
        due("one byte more", x.feed(' ', 1), FULL);
        due("as many as can be", x.count(4), 120);
        due("the last of them counts", x.parish(), 2);
        due("so does the first", x.count(0), 1);

        sentence = "TOKENS, each as long as can be";
        dueFault("fieldfield", 0);
        dueFault("teampace 1", 0);
        dueFault("team pace 11", 10);
        due("12, not 1 and 2", dueText("field stones 12", 1).of(0, STONES), cells(12));
        x = dueText("field stones1 2trees3in4out5wet6;shy pace7;field;join0 1", 4);
        due("a WORD ends ahead of a digit, STONES", x.of(0, STONES), cells(1, 2));
        due("a NUMBER ends ahead of a letter, TREES", x.of(0, TREES), cells(3));
        due("IN", x.of(0, IN), 4);
        due("OUT", x.of(0, OUT), 5);
        due("WET", x.of(0, WET), 6);
        due("PACE", x.teamOf(0, 1), 7);

        sentence = "WORDS (letters a to z)";
        dueFault("fieldz", 0);
        dueFault("fielda", 0);
        dueFault("zfield", 0);
        dueFault("afield", 0);
        dueFault("Field", 0);
        dueFault("fielD", 0);
        dueFault("field `", 6);
        dueFault("field {", 6);
        dueFault("field a", 6);
        dueFault("field z", 6);

        sentence = "NUMBERS (digits, 999 at most)";
        dueFault("field wet 999", 10);
        dueFault("field wet 1000", 10);
        dueFault("field wet 1099", 10);
        dueFault("field wet 4294967299", 10);
        dueFault("field wet 18446744073709551619", 10);
        dueFault("field wet 1/", 11);
        dueFault("field wet 1:", 11);
        due("0 to 9 are digits", dueText("field wet 90", 1).of(0, WET), 90);

        sentence = "blanks may stand between";
        dueText("  field   stones  3  ;  team  pace  2  ", 2);
        dueText("field;field", 2);
        dueFault("fi eld", 0);
        dueFault("field stones 1 2 1", 17);
        dueFault("field\tstones 1", 5);
        dueFault("field\n", 5);
        dueFault("field" + (char) 0, 5);
        dueFault("field" + (char) 160, 5);
    }

    private static void textFields() {
        sentence = "TEXT: ITEM { ; ITEM }.";
        dueText("field", 1);
        dueText("field;field;field;field;field;field", 6);
        dueFault("", 0);
        dueFault(";", 0);
        dueFault("field;", 6);
        dueFault(";field", 0);
        dueFault("field;;field", 6);
        dueFault("field field", 6);

        sentence = "perhaps stones and one or more NUMBERS (CELLS, 0 to 15, each above the one ahead)";
        dueFault("field stones", 12);
        dueFault("field stones;", 12);
        dueFault("field stones trees 1", 13);
        due("the first CELL", dueText("field stones 0", 1).of(0, STONES), 1);
        due("the last CELL", dueText("field stones 15", 1).of(0, STONES), 1 << 15);
        dueFault("field stones 16", 13);
        dueFault("field stones 3 3", 15);
        dueFault("field stones 3 2", 15);
        dueFault("field stones 0 0", 15);
        dueFault("field stones 15 16", 16);
        due("all CELLS", dueText("field stones 0 1 2 3 4 5 6 7 8 9 10 11 12 13 14 15", 1).of(0, STONES), ALL);
        dueFault("field stones 0 1 2 3 4 5 6 7 8 9 10 11 12 13 14 15 16", 51);

        sentence = "perhaps trees and such NUMBERS";
        dueFault("field trees", 11);
        due("the first CELL", dueText("field trees 0", 1).of(0, TREES), 1);
        due("the last CELL", dueText("field trees 15", 1).of(0, TREES), 1 << 15);
        dueFault("field trees 16", 12);
        dueFault("field trees 7 7", 14);
        dueFault("field trees 7 6", 14);
        OneFurrow both = dueText("field stones 4 trees 4", 1);
        due("a stone too", both.of(0, STONES) & both.of(0, TREES), cells(4));

        sentence = "perhaps in and a NUMBER (a CELL)";
        due("none", dueText("field", 1).of(0, IN), -1);
        due("the first", dueText("field in 0", 1).of(0, IN), 0);
        due("the last", dueText("field in 15", 1).of(0, IN), 15);
        dueFault("field in 16", 9);
        dueFault("field in", 8);
        dueFault("field in -1", 9);
        dueFault("field in 1 2", 11);

        sentence = "perhaps out and a NUMBER (a CELL)";
        due("none", dueText("field", 1).of(0, OUT), -1);
        due("the first", dueText("field out 0", 1).of(0, OUT), 0);
        due("the last", dueText("field out 15", 1).of(0, OUT), 15);
        dueFault("field out 16", 10);
        dueFault("field out", 9);
        dueFault("field out 1 2", 12);

        sentence = "perhaps wet and a NUMBER (0 to 99)";
        due("none", dueText("field", 1).of(0, WET), 0);
        due("the first", dueText("field wet 0", 1).of(0, WET), 0);
        due("the last", dueText("field wet 99", 1).of(0, WET), 99);
        dueFault("field wet 100", 10);
        dueFault("field wet", 9);
        dueFault("field wet 1 2", 12);
        dueFault("field wet 1 in 2", 12);
    }

    private static OneFurrow twoFields() {
        OneFurrow x = new OneFurrow();
        x.field();
        x.field();
        return x;
    }

    private static void textJoinsAndTeams() {
        sentence = "join, two NUMBERS (unlike FIELDS that are there by then): from the first to the second";
        dueFault("join 0 1", 5);
        dueFault("field;join 0 0", 13);
        dueFault("field;join 0 1", 13);
        dueFault("field;join 1 0", 11);
        dueFault("field;join 0 1;field", 13);
        OneFurrow x = dueText("field;field;join 0 1", 3);
        due("from 0", x.joined(0), 2);
        due("not from 1", x.joined(1), 0);
        x = twoFields();
        dueText(x, "join 1 0", 1);
        due("FIELDS that were there ahead of the text", x.joined(1), 1);
        dueText(x, "join 1 0", 1);
        due("joined already", x.count(3), 1);
        dueText(x, "join 0 2", -8);
        dueText(x, "field;join 0 2", 2);
        x = dueText("field;field;field;field;field;field;join 5 0", 7);
        due("from the last", x.joined(5), 1);
        dueText(x, "join 5 6", -8);
        dueText(x, "join 6 5", -6);

        sentence = "the name of a KIND (team left right wide shy slow)";
        x = dueText("team;left;right;wide;shy;slow", 6);
        for (int kind = 0; kind < 6; kind++) {
            due("the KIND of " + kind, x.teamOf(kind, 0), kind);
        }
        dueFault("tea", 0);
        dueFault("teams", 0);
        dueFault("slo", 0);
        dueFault("slows", 0);
        dueFault("shyly", 0);
        dueFault("lefu", 0);

        sentence = "perhaps pace and a NUMBER (1 to 9; 1 without): a new TEAM";
        due("without", dueText("slow", 1).teamOf(0, 1), 1);
        due("the least", dueText("slow pace 1", 1).teamOf(0, 1), 1);
        due("the most", dueText("slow pace 9", 1).teamOf(0, 1), 9);
        dueFault("slow pace 0", 10);
        dueFault("slow pace 10", 10);
        dueFault("slow pace", 9);
        dueFault("slow 3", 5);
        dueFault("slow pace 3 4", 12);
    }

    /** A word that may stand there, and others that are like it but for a letter. */
    private static void dueWord(String ahead, String word, String behind) {
        OneFurrow x = new OneFurrow();
        feed(x, ahead + word + behind);
        due("parish() of '" + ahead + word + behind + "' has no FAULT", x.parish() > 0 ? 1 : 0, 1);
        String shorter = word.substring(0, word.length() - 1);
        String[] others = {word + "a", word + "z", "a" + word, word.charAt(0) + word, shorter, shorter + "x", "x" + word.substring(1)};
        for (String other : others) {
            dueFault(ahead + other + behind, ahead.length());
        }
    }

    private static void textFaults() {
        sentence = "FAULT: the place (from 0) of the first byte of the first TOKEN that can't stand there";
        dueFault("x", 0);
        dueFault("  x", 2);
        dueFault("field; x", 7);
        dueFault("field; x; y", 7);
        dueFault("field stones 3 2 #", 15);

        sentence = "a NUMBER that may not be";
        dueFault("3", 0);
        dueFault("field 3", 6);
        dueFault("field;3", 6);
        dueFault("left pace 123", 10);
        dueFault("field; join 0 0; field", 14);

        sentence = "another WORD";
        dueFault("pace 3", 0);
        dueFault("stones 3", 0);
        dueFault("field pace 3", 6);
        dueFault("field stones 3 stones 4", 15);
        dueFault("field trees 3 stones 4", 14);
        dueFault("field out 3 in 4", 12);
        dueFault("team left", 5);
        dueFault("join field 0", 5);

        dueWord("", "field", "");
        dueWord("field ", "stones", " 1");
        dueWord("field ", "trees", " 1");
        dueWord("field ", "in", " 1");
        dueWord("field ", "out", " 1");
        dueWord("field ", "wet", " 1");
        dueWord("field;field;", "join", " 0 1");
        for (String name : new String[] {"team", "left", "right", "wide", "shy", "slow"}) {
            dueWord("field;", name, ";field");
            dueWord(name + " ", "pace", " 2");
        }

        sentence = "a byte that begins no TOKEN";
        dueFault("#", 0);
        dueFault("field,", 5);
        dueFault("field stones -1", 13);
        dueFault("team pace +1", 10);
        dueFault("" + (char) 127, 0);
        dueFault("" + (char) 128, 0);
        dueFault("team " + (char) 255, 5);

        sentence = "field for a 7th, the name of a KIND for a 7th TEAM: its own";
        dueFault("field;field;field;field;field;field; field stones 99", 37);
        dueFault("team;team;team;team;team;team; left pace 99", 31);
        OneFurrow x = twoFields();
        dueText(x, "field;field;field;field", 4);
        dueText(x, "left;field", -6);
        due("no TEAM came", x.count(1), 0);
        for (int kind = 0; kind < 6; kind++) {
            x.team(kind, 1);
        }
        dueText(x, "join 0 1;shy", -10);
        due("no join came", x.count(3), 0);
        dueText(x, "join 0 1", 1);

        sentence = "or how many bytes there are if it ends too early";
        dueFault("   ", 3);
        dueFault("field; ", 7);
        dueFault("field stones ", 13);
        dueFault("join", 4);
        dueFault("field;field;join 0", 18);
        dueFault("field;field;join 0  ", 20);
        dueFault("team pace", 9);
        dueFault("field;" + " ".repeat(114), 120);
    }

    // ---- section 2

    private static void dueBest(OneFurrow x, int team, int... cells) {
        for (int i = 0; i < cells.length; i++) {
            due("CELL " + i, x.best(team, 0, i), cells[i]);
        }
        due("no CELL more", x.best(team, 0, cells.length), NONE);
    }

    private static void sectionTwoFurrows() {
        sentence = "BEST: the WHOLE FURROW of least COST; of several the first, CELL by CELL.";
        dueBest(earth(0, 1, 4, 5, 8, 9), TEAM, 0, 4, 8, 9, 5, 1);
        dueBest(earth(0, 1, 4, 5), TEAM, 0, 1, 5, 4);
        dueBest(earth(0, 1, 4, 5), LEFT, 0, 4, 5, 1);
        dueBest(earth(6, 7), TEAM, 6, 7);
        dueBest(earth(15), TEAM, 15);

        sentence = "COLOURS: CELLS of EARTH whose ROW and COLUMN come to an even number, less those that come to an odd one.";
        int[] even = {0, 2, 5, 7, 8, 10, 13, 15};
        due("even ones alone", earth(even).of(0, 7), 8);
        due("odd ones alone", earth(1, 3, 4, 6, 9, 11, 12, 14).of(0, 7), -8);
        due("all", wholeField().of(0, 7), 0);
        due("none", earth().of(0, 7), 0);
        for (int cell = 0; cell < 16; cell++) {
            due("CELL " + cell, earth(cell).of(0, 7), (cell / 4 + cell % 4) % 2 == 0 ? 1 : -1);
        }

        sentence = "1 if these are more than 1 (or less than -1)";
        due("1", earth(0).barred(0), 0);
        due("2", earth(0, 2).barred(0), 1);
        due("-1", earth(1).barred(0), 0);
        due("-2", earth(1, 3).barred(0), 1);
        due("8", earth(even).barred(0), 1);

        sentence = "(with COLOURS 1 both must be even, with -1 both odd, with 0 unlike, if both are told)";
        // Gates even and odd: none, CELL 0 (even), CELL 1 (odd).
        int[][] unlike = {{0, 0, 0}, {0, 2, 0}, {0, 0, 2}};
        int[][] bothEven = {{0, 0, 2}, {0, 0, 2}, {2, 2, 2}};
        int[][] bothOdd = {{0, 2, 0}, {2, 2, 2}, {0, 2, 0}};
        for (int in = -1; in <= 1; in++) {
            for (int out = -1; out <= 1; out++) {
                due("0, " + in + ", " + out, barred(in, out, 0, 1), unlike[in + 1][out + 1]);
                due("1, " + in + ", " + out, barred(in, out, 0, 1, 2), bothEven[in + 1][out + 1]);
                due("-1, " + in + ", " + out, barred(in, out, 1, 2, 3), bothOdd[in + 1][out + 1]);
            }
        }

        sentence = "else 0 (1 is asked first; without EARTH 0)";
        due("1 is asked first", barred(1, 1, 0, 2), 1);
        due("without EARTH", barred(-1, -1), 0);
        due("without EARTH, GATES alike", barred(0, 0), 0);
        due("without EARTH, GATES unlike", barred(0, 1), 0);

        sentence = "MISSED: the least number of CELLS of EARTH that a FURROW (not WHOLE perhaps) leaves out.";
        due("none is left out", wholeField().missed(TEAM, 0), 0);
        due("one CELL", earth(3).missed(TEAM, 0), 0);
        due("all but one", earth(0, 2, 8, 10).missed(TEAM, 0), 3);
        due("one is aside", earth(0, 1, 2, 5).missed(TEAM, 0), 1);
        due("LEFT may not", earth(0, 1, 5, 6).missed(LEFT, 0), 1);
        due("all even ones but one", earth(even).missed(TEAM, 0), 7);
        due("no FURROW", earth().missed(TEAM, 0), NONE);
        due("WIDE misses one of all", wholeField().missed(WIDE, 0), 1);
        due("two apart of two each", earth(0, 1, 14, 15).missed(TEAM, 0), 2);
        due("two apart of three each", earth(0, 1, 2, 12, 13, 14).missed(TEAM, 0), 3);
        due("two apart of three each, downwards", earth(0, 4, 8, 3, 7, 11).missed(TEAM, 0), 3);
        for (int kind = 0; kind < 6; kind++) {
            due("from CELL 0 to the right, one apart, " + kind, missedFrom(0, kind, 0, 1, 15), 1);
            due("from CELL 4 up, one apart, " + kind, missedFrom(4, kind, 0, 4, 15), 1);
            due("from CELL 1 to the left, one apart, " + kind, missedFrom(1, kind, 0, 1, 15), 1);
            due("from CELL 0 down, one apart, " + kind, missedFrom(0, kind, 0, 4, 15), 1);
            boolean turnsLeft = kind == LEFT || kind == SHY;
            due("about a corner to the right, " + kind, missedFrom(0, kind, 0, 1, 5, 15), turnsLeft ? 2 : 1);
            due("about a corner to the left, " + kind, missedFrom(5, kind, 0, 1, 5, 15), kind == RIGHT ? 2 : 1);
        }
    }

    private static int missedFrom(int in, int team, int... cells) {
        OneFurrow x = earth(cells);
        x.set(0, IN, in);
        return x.missed(team, 0);
    }

    private static int barred(int in, int out, int... cells) {
        OneFurrow x = earth(cells);
        x.set(0, IN, in);
        x.set(0, OUT, out);
        return x.barred(0);
    }

    private static void sectionTwoLines() {
        sentence = "A LINE of a TEAM: all FIELDS one behind the other in a row, each JOINED from the one ahead, each with a WHOLE FURROW";
        OneFurrow x = chain(1, 1, 1, 1, 1, 1, 1);
        due("six in a row", x.lines(0), 1);
        x.join(2, 3, false);
        due("a join is missing", x.lines(0), 0);
        x.join(3, 2, true);
        due("joined the other way", x.lines(0), 0);
        x = chain(1, 1, 1, 1);
        x.join(0, 2, true);
        due("a row that leaves one out is none", x.lines(0), 1);
        x.set(2, STONES, ALL);
        due("one has no WHOLE FURROW", x.lines(0), 0);
        due("one FIELD", chain(1, 1).lines(0), 1);

        sentence = "HOURS: COST; a DAY has 8 HOURS of work. .. DONE: on which DAY the last HOUR of a FIELD is.";
        due("1 HOUR", chain(1, 1).done(0, 0), 0);
        due("8 HOURS", chain(2, 4).done(0, 0), 0);
        due("9 HOURS", chain(3, 3).done(0, 0), 1);
        due("16 HOURS", chain(4, 4).done(0, 0), 1);
        due("18 HOURS", chain(9, 2).done(0, 0), 2);
        due("24 HOURS", chain(6, 4).done(0, 0), 2);
        due("27 HOURS", chain(9, 3).done(0, 0), 3);
        x = chain(2, 4, 4, 1);
        due("8 HOURS", x.done(0, 0), 0);
        due("8 HOURS more", x.done(0, 1), 1);
        due("2 HOURS more", x.done(0, 2), 2);

        sentence = "Quotients are cut.";
        due("7 HOURS", chain(7, 1).late(0, -1), 0);
        due("12 HOURS", chain(4, 3).late(0, -1), 1);
        due("15 HOURS", chain(5, 3).late(0, -1), 1);

        sentence = "a FIELD that is WET yet is waited for till HOUR 0 of its DAY";
        x = chain(2, 4, 4);
        x.set(1, WET, 1);
        due("DAY 1 begins right then", x.done(0, 1), 1);
        x.set(1, WET, 2);
        due("DAY 2 is waited for", x.done(0, 1), 2);
        x = chain(9, 4, 4);
        x.set(1, WET, 4);
        due("DAY 4 is on yet", x.done(0, 1), 8);
        x.set(1, WET, 5);
        due("DAY 5 is waited for", x.done(0, 1), 9);
        x = chain(1, 4, 4, 4, 1);
        x.set(1, WET, 1);
        due("ahead of it", x.done(0, 0), 0);
        due("4 HOURS from HOUR 0 on", x.done(0, 1), 1);
        due("4 HOURS more on that DAY", x.done(0, 2), 1);
        due("none is left on it", x.done(0, 3), 2);
        x.set(0, WET, 99);
        due("the first waits, too", x.done(0, 0), 99);
        due("behind it none is WET", x.done(0, 1), 99);
        due("DAY 100", x.done(0, 2), 100);

        sentence = "LATE: the row by which the last FIELD is DONE first; of several the first by the FIELDS' numbers.";
        x = chain(1, 4, 4);
        x.join(1, 0, true);
        due("of two alike the first", x.late(0, 0), 0);
        x.set(0, WET, 1);
        due("both on DAY 1", x.late(0, 0), 0);
        x.pace(0, 2);
        due("on DAY 1, not on DAY 2", x.late(0, 0), 1);

        sentence = "YIELD of a row: WORTH of each FIELD, less 3 for each DAY till it is DONE (0 at least), together.";
        x = chain(1, 1);
        due("DAY 0", x.late(0, -2), 100);
        x.set(0, WET, 33);
        due("DAY 33", x.late(0, -2), 1);
        x.set(0, WET, 34);
        due("DAY 34", x.late(0, -2), 0);
        x.set(0, WORTH, 102);
        due("just 0", x.late(0, -2), 0);
        x.set(0, WORTH, 103);
        due("1 more", x.late(0, -2), 1);
        x.set(0, WORTH, 0);
        due("WORTH 0", x.late(0, -2), 0);
        x.set(0, WORTH, 999);
        x.set(0, WET, 99);
        due("the most, the latest", x.late(0, -2), 702);
        x = chain(1, 1, 1);
        x.set(0, WORTH, 0);
        x.set(1, WET, 10);
        x.set(0, WET, 5);
        due("each 0 at least, not both together", x.late(0, -2), 70);
    }

    // ---- section 3

    private static void sectionThree() {
        sentence = "SHEETS 0 to 3 are rows of at most 40 numbers of 8, 16 or 64 bits, or MISSING (at first).";
        OneFurrow x = new OneFurrow();
        for (int s = 0; s < 4; s++) {
            due("missing at first", x.write(s, 0, 0), MISSING);
        }
        due("sheet -1", x.sheet(-1, 8, 1), BEYOND);
        due("sheet 4", x.sheet(4, 8, 1), BEYOND);
        int[] bits = {8, 16, 64, 8};
        long[] least = {Byte.MIN_VALUE, Short.MIN_VALUE, Long.MIN_VALUE, Byte.MIN_VALUE};
        for (int s = 0; s < 4; s++) {
            due("40 numbers", x.sheet(s, bits[s], 40), 40);
            due("the last of them", x.write(s, 39, least[s] - 1), 0);
            due("as many bits", x.write(s, 39, least[s]), -1 - least[s]);
            due("no 41st", x.write(s, 40, 0), BEYOND);
            due("41 numbers", x.sheet(s, bits[s], 41), BEYOND);
            due("-1 numbers", x.sheet(s, bits[s], -1), SIZE);
            due("none", x.sheet(s, bits[s], 0), 0);
            due("none isn't missing", x.write(s, 0, 0), BEYOND);
        }
        due("32 bits", x.sheet(0, 32, 1), BEYOND);
    }
}
