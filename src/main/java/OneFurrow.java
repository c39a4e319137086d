import java.util.Arrays;

/**
 * Fields ploughed in one furrow, the teams that plough them, and the parish in which they lie.
 * What each call promises stands in the project's document, by the number of its promise.
 */
public final class OneFurrow {
    private static final int BEYOND = 0;
    private static final int FULL = 1;
    private static final int KIND = 2;
    private static final int NONE = 3;
    private static final int MISSING = 5;
    private static final int SIZE = 6;
    private static final int FINDINGS = 7;
    private static final int FIRST_FINDING = -1000000001;

    private static final int MOST_FIELDS = 6;
    private static final int MOST_TEAMS = 6;
    private static final int CELLS = 16;
    private static final int ALL_CELLS = 0xFFFF;
    private static final int EVEN_CELLS = 0xA5A5;
    private static final int NOT_FIRST_COLUMN = 0xEEEE;
    private static final int NOT_LAST_COLUMN = 0x7777;
    private static final int DIRECTIONS = 4;
    private static final int RIGHT_TURN = 1;
    private static final int LEFT_TURN = 3;

    /** What there is to tell of a field, as of() and set() number it. */
    private static final int STONES = 0;
    private static final int TREES = 1;
    private static final int IN = 2;
    private static final int OUT = 3;
    private static final int WET = 4;
    private static final int WORTH = 5;
    private static final int MARKS = 6;
    private static final int EARTH = 6;
    private static final int COLOURS = 7;
    private static final int[] LEAST_MARK = {0, 0, -1, -1, 0, 0};
    private static final int[] MOST_MARK = {ALL_CELLS, ALL_CELLS, 15, 15, 99, 999};
    private static final int[] FIRST_MARK = {0, 0, -1, -1, 0, 100};

    private static final int LEFT = 1;
    private static final int RIGHT = 2;
    private static final int WIDE = 3;
    private static final int SHY = 4;
    private static final int KINDS = 6;
    /** By kind the set of kinds that it is of: its own and those above it. */
    private static final int[] KINDS_ABOVE = {0b000001, 0b000011, 0b000101, 0b001001, 0b010011, 0b101001};
    private static final int[] DEAR = {2, 1, 2, 3, 1, 6};
    private static final int MOST_PACE = 9;
    /** Stands for the cost where there is no whole furrow: a real one always comes to less. */
    private static final int NO_COST = 1000000;

    private static final int HOURS_A_DAY = 8;
    private static final int LOSS_A_DAY = 3;

    private static final int SHEETS = 4;
    private static final int NOT_WHOLE = 100;

    private final Parish now = new Parish();
    private final Parish kept = new Parish();
    /** A text is read onto this one, so that a fault leaves the parish as it was. */
    private final Parish draft = new Parish();
    private boolean isKept;
    private final Text tape = new Text();
    private final Sheet[] sheets = new Sheet[SHEETS];
    private final int[] findings = new int[FINDINGS];
    /** By field and kind, so that a question that comes again isn't searched again. */
    private final Furrows[] asked = new Furrows[MOST_FIELDS * KINDS];
    /** For fields as they would be, with a stone less or a gate elsewhere. */
    private final Furrows trial = new Furrows();
    private final Rows rows = new Rows();
    private final int[] toldRow = new int[MOST_FIELDS];

    public OneFurrow() {
        for (int i = 0; i < asked.length; i++) {
            asked[i] = new Furrows();
        }
        for (int i = 0; i < sheets.length; i++) {
            sheets[i] = new Sheet();
        }
    }

    // ---- fields

    public int field() {
        if (now.fields >= MOST_FIELDS) {
            return finding(FULL);
        }
        return now.addField();
    }

    public int of(int field, int what) {
        if (!now.hasField(field) || what < STONES || what > COLOURS) {
            return finding(BEYOND);
        }
        if (what == EARTH) {
            return now.earth(field);
        }
        return what == COLOURS ? coloursOf(now.earth(field)) : now.mark(field, what);
    }

    public int set(int field, int what, int v) {
        if (!now.hasField(field) || what < STONES || what > WORTH) {
            return finding(BEYOND);
        }
        if (v < LEAST_MARK[what] || v > MOST_MARK[what]) {
            return finding(BEYOND);
        }
        int was = now.mark(field, what);
        now.putMark(field, what, v);
        return was;
    }

    public int join(int from, int to, boolean is) {
        if (!now.hasField(from) || !now.hasField(to) || from == to) {
            return finding(BEYOND);
        }
        if (holds(now.joins[from], to) == is) {
            return 0;
        }
        now.joins[from] ^= 1 << to;
        return 1;
    }

    public int joined(int field) {
        return now.hasField(field) ? now.joins[field] : finding(BEYOND);
    }

    // ---- teams

    public int team(int kind, int pace) {
        if (!isKind(kind) || !isPace(pace)) {
            return finding(BEYOND);
        }
        if (now.teams >= MOST_TEAMS) {
            return finding(FULL);
        }
        return now.addTeam(kind, pace);
    }

    public int teamOf(int team, int what) {
        if (!now.hasTeam(team) || what < 0 || what > 2) {
            return finding(BEYOND);
        }
        if (what == 0) {
            return now.kinds[team];
        }
        return what == 1 ? now.paces[team] : DEAR[now.kinds[team]];
    }

    public int pace(int team, int v) {
        if (!now.hasTeam(team) || !isPace(v)) {
            return finding(BEYOND);
        }
        int was = now.paces[team];
        now.paces[team] = v;
        return was;
    }

    public int as(int team, int kind) {
        if (!now.hasTeam(team) || !isKind(kind)) {
            return finding(BEYOND);
        }
        return isOfKind(now.kinds[team], kind) ? DEAR[now.kinds[team]] : finding(KIND);
    }

    public int may(int team, int field, int cell, int before, int direction, boolean turned) {
        if (!now.hasTeam(team) || !now.hasField(field) || !isCell(cell)) {
            return finding(BEYOND);
        }
        if (before < -1 || before >= DIRECTIONS || direction < 0 || direction >= DIRECTIONS) {
            return finding(BEYOND);
        }
        int besideTrees = cellsBeside(now.mark(field, TREES));
        return mayStep(now.kinds[team], besideTrees, cell, before, direction, turned) ? 1 : 0;
    }

    // ---- furrows

    public int best(int team, int field, int what) {
        if (!now.hasTeam(team) || !now.hasField(field) || what < -2 || what >= CELLS) {
            return finding(BEYOND);
        }
        Furrows furrows = furrowsOf(team, field);
        if (furrows.whole == 0 || what >= furrows.cells) {
            return finding(NONE);
        }
        if (what == -1) {
            return costOf(team, furrows);
        }
        return what == -2 ? furrows.turns : furrows.first[what];
    }

    public int many(int team, int field) {
        if (!now.hasTeam(team) || !now.hasField(field)) {
            return finding(BEYOND);
        }
        return furrowsOf(team, field).whole;
    }

    public int barred(int field) {
        if (!now.hasField(field)) {
            return finding(BEYOND);
        }
        return barOf(now.earth(field), now.mark(field, IN), now.mark(field, OUT));
    }

    public int missed(int team, int field) {
        if (!now.hasTeam(team) || !now.hasField(field)) {
            return finding(BEYOND);
        }
        Furrows furrows = furrowsOf(team, field);
        int longest = furrows.longest();
        return longest == 0 ? finding(NONE) : furrows.cells - longest;
    }

    public int stone(int team, int field) {
        if (!now.hasTeam(team) || !now.hasField(field)) {
            return finding(BEYOND);
        }
        int stones = now.mark(field, STONES);
        int least = NO_COST;
        int found = -1;
        for (int cell = 0; cell < CELLS; cell++) {
            if (holds(stones, cell)) {
                int cost = costWithout(team, field, cell);
                if (cost < least) {
                    least = cost;
                    found = cell;
                }
            }
        }
        return found < 0 ? finding(NONE) : found;
    }

    public int gate(int team, int field, int what) {
        if (!now.hasTeam(team) || !now.hasField(field) || what < IN || what > OUT) {
            return finding(BEYOND);
        }
        int in = what == IN ? -1 : now.mark(field, IN);
        int out = what == OUT ? -1 : now.mark(field, OUT);
        trial.ask(now.kinds[team], now.earth(field), now.mark(field, TREES), in, out);
        int[] turns = what == IN ? trial.turnsFrom : trial.turnsTo;
        int found = -1;
        for (int cell = 0; cell < CELLS; cell++) {
            if (turns[cell] >= 0 && (found < 0 || turns[cell] < turns[found])) {
                found = cell;
            }
        }
        return found < 0 ? finding(NONE) : found;
    }

    public int whose(int field) {
        if (!now.hasField(field)) {
            return finding(BEYOND);
        }
        int least = NO_COST;
        int found = -1;
        for (int team = 0; team < now.teams; team++) {
            int cost = costOf(team, furrowsOf(team, field));
            if (cost < least) {
                least = cost;
                found = team;
            }
        }
        return found < 0 ? finding(NONE) : found;
    }

    // ---- the parish

    public int lines(int team) {
        if (!now.hasTeam(team)) {
            return finding(BEYOND);
        }
        goThrough(team);
        return rows.many;
    }

    public int late(int team, int what) {
        if (!now.hasTeam(team) || what < -2 || what >= MOST_FIELDS) {
            return finding(BEYOND);
        }
        goThrough(team);
        if (rows.many == 0 || what >= now.fields) {
            return finding(NONE);
        }
        if (what == -1) {
            return rows.lateDay;
        }
        return what == -2 ? rows.lateYield : rows.late[what];
    }

    public int done(int team, int field) {
        if (!now.hasTeam(team) || !now.hasField(field)) {
            return finding(BEYOND);
        }
        goThrough(team);
        return rows.many == 0 ? finding(NONE) : rows.lateDays[field];
    }

    public int yields(int team) {
        if (!now.hasTeam(team)) {
            return finding(BEYOND);
        }
        goThrough(team);
        return rows.many == 0 ? finding(NONE) : rows.mostYield;
    }

    public int row(int team, int digits, int n) {
        if (!now.hasTeam(team) || n < 0 || n > MOST_FIELDS || !takeRow(digits, n)) {
            return finding(BEYOND);
        }
        int been = 0;
        for (int i = 0; i < n; i++) {
            int field = toldRow[i];
            boolean isJoined = i == 0 || holds(now.joins[toldRow[i - 1]], field);
            if (!isJoined || holds(been, field) || furrowsOf(team, field).whole == 0) {
                return i;
            }
            been |= 1 << field;
        }
        return n;
    }

    public int lacks(int team) {
        if (!now.hasTeam(team)) {
            return finding(BEYOND);
        }
        goThrough(team);
        int leastDay = 0;
        int found = -1;
        for (int from = 0; from < now.fields; from++) {
            for (int to = 0; to < now.fields; to++) {
                if (from == to || holds(now.joins[from], to)) {
                    continue;
                }
                rows.joins[from] |= 1 << to;
                rows.search();
                rows.joins[from] = now.joins[from];
                if (rows.many > 0 && (found < 0 || rows.lateDay < leastDay)) {
                    leastDay = rows.lateDay;
                    found = 10 * from + to;
                }
            }
        }
        return found < 0 ? finding(NONE) : found;
    }

    // ---- the text

    public int feed(int bytes, int n) {
        if (n < 1 || n > 4) {
            return finding(BEYOND);
        }
        if (tape.length + n > Text.MOST_BYTES) {
            return finding(FULL);
        }
        for (int i = n - 1; i >= 0; i--) {
            tape.append((bytes >>> 8 * i) & 0xFF);
        }
        return tape.length;
    }

    public int wipe() {
        int had = tape.length;
        tape.length = 0;
        return had;
    }

    public int parish() {
        draft.takeFrom(now);
        int items = tape.tellOnto(draft);
        tape.length = 0;
        if (items >= 0) {
            now.takeFrom(draft);
        }
        return items;
    }

    // ---- sheets

    public int sheet(int s, int bits, int n) {
        if (!isSheet(s) || (bits != 0 && bits != 8 && bits != 16 && bits != 64)) {
            return finding(BEYOND);
        }
        if (n < 0) {
            return finding(SIZE);
        }
        if (n > Sheet.MOST_NUMBERS) {
            return finding(BEYOND);
        }
        sheets[s].begin(bits, n);
        return sheets[s].size;
    }

    public long write(int s, int i, long v) {
        if (!isSheet(s)) {
            return finding(BEYOND);
        }
        Sheet sheet = sheets[s];
        if (sheet.bits == 0) {
            return finding(MISSING);
        }
        if (i < 0 || i >= sheet.size) {
            return finding(BEYOND);
        }
        long was = sheet.numbers[i];
        sheet.put(i, v);
        return was;
    }

    public int copy(int s, int from, int t, int to, int n) {
        if (!isSheet(s) || !isSheet(t)) {
            return finding(BEYOND);
        }
        Sheet source = sheets[s];
        Sheet target = sheets[t];
        if (source.bits == 0 || target.bits == 0) {
            return finding(MISSING);
        }
        if (source.bits != target.bits) {
            return finding(KIND);
        }
        if (!source.hasNumbers(from, n) || !target.hasNumbers(to, n)) {
            return finding(BEYOND);
        }
        System.arraycopy(source.numbers, from, target.numbers, to, n);
        return n;
    }

    public int lays(int s, int field) {
        if (!isSheet(s)) {
            return finding(BEYOND);
        }
        Sheet sheet = sheets[s];
        if (sheet.bits == 0) {
            return finding(MISSING);
        }
        if (!now.hasField(field)) {
            return finding(BEYOND);
        }
        int came = 0;
        for (int cell = 0; cell < CELLS && cell < sheet.size; cell++) {
            long number = sheet.numbers[cell];
            if (number >= 0 && number <= 2) {
                now.layCell(field, cell, number == 1, number == 2);
                came++;
            }
        }
        return came;
    }

    public int draw(int s, int team, int field) {
        int wrong = lookAt(s, team, field);
        if (wrong >= 0) {
            return finding(wrong);
        }
        Furrows furrows = furrowsOf(team, field);
        if (furrows.whole == 0) {
            return finding(NONE);
        }
        Sheet sheet = sheets[s];
        int drawn = Math.min(sheet.size, furrows.cells);
        for (int i = 0; i < drawn; i++) {
            sheet.put(i, furrows.first[i]);
        }
        return drawn;
    }

    public int read(int s, int team, int field) {
        int wrong = lookAt(s, team, field);
        if (wrong >= 0) {
            return finding(wrong);
        }
        Sheet sheet = sheets[s];
        int left = now.earth(field);
        int in = now.mark(field, IN);
        int besideTrees = cellsBeside(now.mark(field, TREES));
        int cell = -1;
        int before = -1;
        boolean turned = false;
        for (int i = 0; i < sheet.size; i++) {
            int next = cellOf(sheet.numbers[i]);
            if (next < 0 || !holds(left, next) || (i == 0 && in >= 0 && next != in)) {
                return 1 + i;
            }
            if (i > 0) {
                int direction = directionTo(cell, next);
                if (direction < 0 || !mayStep(now.kinds[team], besideTrees, next, before, direction, turned)) {
                    return 1 + i;
                }
                turned = isTurn(before, direction);
                before = direction;
            }
            left &= ~(1 << next);
            cell = next;
        }
        int out = now.mark(field, OUT);
        boolean isWhole = cell >= 0 && left == 0 && (out < 0 || cell == out);
        return isWhole ? 0 : NOT_WHOLE;
    }

    // ---- images

    public int image() {
        kept.takeFrom(now);
        isKept = true;
        return 1;
    }

    public int undo() {
        if (!isKept) {
            return finding(NONE);
        }
        now.takeFrom(kept);
        return now.fields;
    }

    public int tear() {
        int had = isKept ? 1 : 0;
        isKept = false;
        return had;
    }

    public int count(int what) {
        switch (what) {
            case 0:
                return now.fields;
            case 1:
                return now.teams;
            case 2:
                return now.allEarth();
            case 3:
                return now.allJoins();
            case 4:
                return tape.length;
            default:
                return finding(BEYOND);
        }
    }

    public int status(int which) {
        if (which < -1 || which >= FINDINGS) {
            return finding(BEYOND);
        }
        if (which >= 0) {
            return findings[which];
        }
        int all = 0;
        for (int i = 0; i < FINDINGS; i++) {
            all += findings[i];
        }
        return all;
    }

    // ---- what the calls share

    private int finding(int which) {
        findings[which]++;
        return FIRST_FINDING - which;
    }

    private Furrows furrowsOf(int team, int field) {
        int kind = now.kinds[team];
        Furrows furrows = asked[field * KINDS + kind];
        furrows.ask(kind, now.earth(field), now.mark(field, TREES), now.mark(field, IN), now.mark(field, OUT));
        return furrows;
    }

    private int costOf(int team, Furrows furrows) {
        if (furrows.whole == 0) {
            return NO_COST;
        }
        return now.paces[team] * furrows.cells + DEAR[now.kinds[team]] * furrows.turns;
    }

    private int costWithout(int team, int field, int stone) {
        int trees = now.mark(field, TREES);
        int stones = now.mark(field, STONES) & ~(1 << stone);
        int earth = ALL_CELLS & ~(stones | trees);
        trial.ask(now.kinds[team], earth, trees, now.mark(field, IN), now.mark(field, OUT));
        return costOf(team, trial);
    }

    /** Goes through all rows of the parish with a team. */
    private void goThrough(int team) {
        rows.fields = now.fields;
        for (int field = 0; field < now.fields; field++) {
            rows.hours[field] = costOf(team, furrowsOf(team, field));
            rows.wet[field] = now.mark(field, WET);
            rows.worth[field] = now.mark(field, WORTH);
            rows.joins[field] = now.joins[field];
        }
        rows.search();
    }

    /** The told row's fields, from digits by six: whether they can be told so. */
    private boolean takeRow(int digits, int n) {
        int rest = digits;
        for (int i = n - 1; i >= 0; i--) {
            toldRow[i] = rest % MOST_FIELDS;
            rest /= MOST_FIELDS;
            if (!now.hasField(toldRow[i])) {
                return false;
            }
        }
        return digits >= 0 && rest == 0;
    }

    /** The finding that draw() and read() have in common, or -1. */
    private int lookAt(int s, int team, int field) {
        if (!isSheet(s)) {
            return BEYOND;
        }
        if (sheets[s].bits == 0) {
            return MISSING;
        }
        return now.hasTeam(team) && now.hasField(field) ? -1 : BEYOND;
    }

    // ---- sets, cells and directions

    private static boolean holds(int set, int member) {
        return (set >> member & 1) != 0;
    }

    private static boolean isCell(int cell) {
        return cell >= 0 && cell < CELLS;
    }

    private static boolean isSheet(int s) {
        return s >= 0 && s < SHEETS;
    }

    private static int cellOf(long number) {
        return number >= 0 && number < CELLS ? (int) number : -1;
    }

    /** The cell in a direction from one, or -1 if the field ends there. */
    private static int cellTowards(int cell, int direction) {
        switch (direction) {
            case 0:
                return cell >= 4 ? cell - 4 : -1;
            case 1:
                return (cell & 3) < 3 ? cell + 1 : -1;
            case 2:
                return cell < 12 ? cell + 4 : -1;
            default:
                return (cell & 3) > 0 ? cell - 1 : -1;
        }
    }

    /** In which direction a cell is beside another, or -1 if it isn't. */
    private static int directionTo(int cell, int next) {
        for (int direction = 0; direction < DIRECTIONS; direction++) {
            if (cellTowards(cell, direction) == next) {
                return direction;
            }
        }
        return -1;
    }

    private static int cellsBeside(int set) {
        int across = (set & NOT_FIRST_COLUMN) >> 1 | (set & NOT_LAST_COLUMN) << 1;
        return (across | set >> 4 | set << 4) & ALL_CELLS;
    }

    private static int coloursOf(int earth) {
        return Integer.bitCount(earth & EVEN_CELLS) - Integer.bitCount(earth & ~EVEN_CELLS);
    }

    /** Which way colours bar a whole furrow (1, 2), or that they don't (0). */
    private static int barOf(int earth, int in, int out) {
        if (earth == 0) {
            return 0;
        }
        int colours = coloursOf(earth);
        if (colours > 1 || colours < -1) {
            return 1;
        }
        if (colours == 0) {
            return in >= 0 && out >= 0 && isEven(in) == isEven(out) ? 2 : 0;
        }
        boolean even = colours == 1;
        boolean inBars = in >= 0 && isEven(in) != even;
        boolean outBars = out >= 0 && isEven(out) != even;
        return inBars || outBars ? 2 : 0;
    }

    private static boolean isEven(int cell) {
        return holds(EVEN_CELLS, cell);
    }

    // ---- kinds

    private static boolean isKind(int kind) {
        return kind >= 0 && kind < KINDS;
    }

    private static boolean isPace(int pace) {
        return pace >= 1 && pace <= MOST_PACE;
    }

    private static boolean isOfKind(int kind, int other) {
        return (KINDS_ABOVE[kind] >> other & 1) != 0;
    }

    private static boolean isTurn(int before, int direction) {
        return before >= 0 && before != direction;
    }

    private static boolean mayStep(int kind, int besideTrees, int cell, int before, int direction, boolean turned) {
        if (isTurn(before, direction)) {
            int turn = (direction - before) & 3;
            if (turn == RIGHT_TURN && isOfKind(kind, LEFT)) {
                return false;
            }
            if (turn == LEFT_TURN && isOfKind(kind, RIGHT)) {
                return false;
            }
            if (turned && isOfKind(kind, WIDE)) {
                return false;
            }
        }
        return !holds(besideTrees, cell) || !isOfKind(kind, SHY);
    }

    /** All that section 1 of the document tells, but for the tape. */
    private static final class Parish {
        private int fields;
        private int teams;
        private final int[] marks = new int[MOST_FIELDS * MARKS];
        private final int[] joins = new int[MOST_FIELDS];
        private final int[] kinds = new int[MOST_TEAMS];
        private final int[] paces = new int[MOST_TEAMS];

        private boolean hasField(int field) {
            return field >= 0 && field < fields;
        }

        private boolean hasTeam(int team) {
            return team >= 0 && team < teams;
        }

        private int mark(int field, int what) {
            return marks[field * MARKS + what];
        }

        private void putMark(int field, int what, int v) {
            marks[field * MARKS + what] = v;
        }

        private int earth(int field) {
            return ALL_CELLS & ~(mark(field, STONES) | mark(field, TREES));
        }

        /** The number of a new field; the caller has looked whether there is room. */
        private int addField() {
            int field = fields;
            for (int what = 0; what < MARKS; what++) {
                putMark(field, what, FIRST_MARK[what]);
            }
            joins[field] = 0;
            fields++;
            return field;
        }

        /** The number of a new team; the caller has looked whether there is room. */
        private int addTeam(int kind, int pace) {
            int team = teams;
            kinds[team] = kind;
            paces[team] = pace;
            teams++;
            return team;
        }

        private void layCell(int field, int cell, boolean isStone, boolean isTree) {
            int others = ~(1 << cell);
            int stone = isStone ? 1 << cell : 0;
            int tree = isTree ? 1 << cell : 0;
            putMark(field, STONES, mark(field, STONES) & others | stone);
            putMark(field, TREES, mark(field, TREES) & others | tree);
        }

        private int allEarth() {
            int all = 0;
            for (int field = 0; field < fields; field++) {
                all += Integer.bitCount(earth(field));
            }
            return all;
        }

        private int allJoins() {
            int all = 0;
            for (int field = 0; field < fields; field++) {
                all += Integer.bitCount(joins[field]);
            }
            return all;
        }

        private void takeFrom(Parish other) {
            fields = other.fields;
            teams = other.teams;
            System.arraycopy(other.marks, 0, marks, 0, marks.length);
            System.arraycopy(other.joins, 0, joins, 0, joins.length);
            System.arraycopy(other.kinds, 0, kinds, 0, kinds.length);
            System.arraycopy(other.paces, 0, paces, 0, paces.length);
        }
    }

    /** One question, which furrows a kind of team has in a field, and what was found. */
    private static final class Furrows {
        /** The directions by the numbers of the cells they lead to: so the first row found is the first cell by cell. */
        private static final int[] BY_CELL = {0, 3, 1, 2};
        private static final int UNKNOWN = -1;

        private int kind = -1;
        private int earth;
        private int besideTrees;
        private int in;
        private int out;

        private int cells;
        private int whole;
        private int turns;
        private final int[] first = new int[CELLS];
        /** The least turns of a whole furrow by the cell where it begins and where it ends, or -1. */
        private final int[] turnsFrom = new int[CELLS];
        private final int[] turnsTo = new int[CELLS];

        private int longest;
        private int bound;
        private final int[] going = new int[CELLS];

        private void ask(int newKind, int newEarth, int trees, int newIn, int newOut) {
            int newBeside = isOfKind(newKind, SHY) ? cellsBeside(trees) : 0;
            boolean isSameField = newEarth == earth && newBeside == besideTrees && newIn == in && newOut == out;
            if (newKind == kind && isSameField) {
                return;
            }
            kind = newKind;
            earth = newEarth;
            besideTrees = newBeside;
            in = newIn;
            out = newOut;
            cells = Integer.bitCount(earth);
            longest = UNKNOWN;
            searchWhole();
        }

        private void searchWhole() {
            whole = 0;
            turns = 0;
            Arrays.fill(turnsFrom, -1);
            Arrays.fill(turnsTo, -1);
            for (int start = 0; start < CELLS; start++) {
                // The colours spare the search of what can't end well.
                if (mayBegin(start) && barOf(earth, start, out) == 0) {
                    going[0] = start;
                    plough(1, start, earth & ~(1 << start), -1, false, 0);
                }
            }
        }

        private boolean mayBegin(int start) {
            boolean isOutThere = out < 0 || holds(earth, out);
            return holds(earth, start) && (in < 0 || in == start) && isOutThere;
        }

        private void plough(int depth, int cell, int left, int before, boolean turned, int turnsYet) {
            if (left == 0) {
                keep(cell, turnsYet);
                return;
            }
            if (depth >= CELLS || isHopeless(cell, left)) {
                return;
            }
            for (int i = 0; i < DIRECTIONS; i++) {
                int direction = BY_CELL[i];
                int next = cellTowards(cell, direction);
                if (next < 0 || !holds(left, next)) {
                    continue;
                }
                if (mayStep(kind, besideTrees, next, before, direction, turned)) {
                    boolean turn = isTurn(before, direction);
                    going[depth] = next;
                    plough(depth + 1, next, left & ~(1 << next), direction, turn, turn ? turnsYet + 1 : turnsYet);
                }
            }
        }

        private void keep(int cell, int turnsYet) {
            if (out >= 0 && cell != out) {
                return;
            }
            if (whole == 0 || turnsYet < turns) {
                turns = turnsYet;
                System.arraycopy(going, 0, first, 0, CELLS);
            }
            whole++;
            keepLeast(turnsFrom, going[0], turnsYet);
            keepLeast(turnsTo, cell, turnsYet);
        }

        private static void keepLeast(int[] least, int cell, int turnsYet) {
            if (least[cell] < 0 || turnsYet < least[cell]) {
                least[cell] = turnsYet;
            }
        }

        /**
         * Whether what is left can't be ploughed from a cell on: a cell that is left must be come to,
         * and all but the last must be gone out of by another way.
         */
        private boolean isHopeless(int cell, int left) {
            int open = left | 1 << cell;
            int above = open << 4;
            int below = open >> 4;
            int before = (open & NOT_LAST_COLUMN) << 1;
            int behind = (open & NOT_FIRST_COLUMN) >> 1;
            int oneWay = above | below | before | behind;
            int twoWays = above & below | before & behind | (above | below) & (before | behind);
            int ends = left & ~twoWays;
            if ((left & ~oneWay) != 0 || (ends & ends - 1) != 0) {
                return true;
            }
            return out >= 0 && (!holds(left, out) || (ends & ~(1 << out)) != 0);
        }

        /** How many cells the longest furrow has, whole or not; 0 if there is none. */
        private int longest() {
            if (longest == UNKNOWN) {
                searchLongest();
            }
            return longest;
        }

        private void searchLongest() {
            if (whole > 0) {
                longest = cells;
                return;
            }
            longest = 0;
            int even = Integer.bitCount(earth & EVEN_CELLS);
            bound = Math.min(cells - 1, 2 * Math.min(even, cells - even) + 1);
            for (int start = 0; start < CELLS; start++) {
                if (mayBegin(start)) {
                    stretch(1, start, earth & ~(1 << start), -1, false);
                }
            }
        }

        private void stretch(int depth, int cell, int left, int before, boolean turned) {
            if (out < 0 || cell == out) {
                longest = Math.max(longest, depth);
            }
            if (cell == out || depth >= CELLS || longest >= bound) {
                return;
            }
            for (int i = 0; i < DIRECTIONS; i++) {
                int direction = BY_CELL[i];
                int next = cellTowards(cell, direction);
                if (next < 0 || !holds(left, next)) {
                    continue;
                }
                if (mayStep(kind, besideTrees, next, before, direction, turned)) {
                    stretch(depth + 1, next, left & ~(1 << next), direction, isTurn(before, direction));
                }
            }
        }
    }

    /** The rows in which a team goes through all fields, and the one by which it is done first. */
    private static final class Rows {
        private int fields;
        private final int[] hours = new int[MOST_FIELDS];
        private final int[] wet = new int[MOST_FIELDS];
        private final int[] worth = new int[MOST_FIELDS];
        private final int[] joins = new int[MOST_FIELDS];

        private int many;
        private int mostYield;
        private int lateDay;
        private int lateYield;
        private final int[] late = new int[MOST_FIELDS];
        private final int[] lateDays = new int[MOST_FIELDS];

        private final int[] going = new int[MOST_FIELDS];
        private final int[] days = new int[MOST_FIELDS];

        private void search() {
            many = 0;
            for (int field = 0; field < fields; field++) {
                if (hours[field] == NO_COST) {
                    return;
                }
            }
            int all = (1 << fields) - 1;
            goOn(0, all, all, 0, 0);
        }

        private void goOn(int depth, int left, int open, int hour, int yieldYet) {
            if (depth >= fields) {
                keep(depth, yieldYet);
                return;
            }
            for (int field = 0; field < fields; field++) {
                if (!holds(left & open, field)) {
                    continue;
                }
                int end = Math.max(hour, wet[field] * HOURS_A_DAY) + hours[field];
                int day = (end - 1) / HOURS_A_DAY;
                going[depth] = field;
                days[field] = day;
                int more = Math.max(0, worth[field] - LOSS_A_DAY * day);
                goOn(depth + 1, left & ~(1 << field), joins[field], end, yieldYet + more);
            }
        }

        private void keep(int depth, int yieldYet) {
            if (depth == 0) {
                return;
            }
            int day = days[going[depth - 1]];
            if (many == 0 || day < lateDay) {
                lateDay = day;
                lateYield = yieldYet;
                System.arraycopy(going, 0, late, 0, MOST_FIELDS);
                System.arraycopy(days, 0, lateDays, 0, MOST_FIELDS);
            }
            mostYield = many == 0 ? yieldYet : Math.max(mostYield, yieldYet);
            many++;
        }
    }

    /** The tape, and the text of a parish on it, read token by token. */
    private static final class Text {
        private static final int MOST_BYTES = 120;
        private static final int END = 0;
        private static final int WORD = 1;
        private static final int NUMBER = 2;
        private static final int SIGN = 3;
        private static final int STRANGE = 4;
        private static final int TOO_MUCH = 1000;

        private final int[] bytes = new int[MOST_BYTES];
        private int length;

        /** The token in hand: what it is, where it begins, where the one behind it is looked for. */
        private int token;
        private int start;
        private int behind;
        private int number;

        private void append(int b) {
            if (length < MOST_BYTES) {
                bytes[length] = b;
                length++;
            }
        }

        /** How many items came onto a parish, or -1 less the place of the fault. */
        private int tellOnto(Parish parish) {
            behind = 0;
            takeToken();
            for (int items = 1; items <= MOST_BYTES; items++) {
                if (!takeItem(parish)) {
                    break;
                }
                if (token == END) {
                    return items;
                }
                if (token != SIGN) {
                    break;
                }
                takeToken();
            }
            // Whatever could not be taken is still the token in hand.
            return -1 - start;
        }

        private boolean takeItem(Parish parish) {
            if (isWord("field")) {
                return takeField(parish);
            }
            if (isWord("join")) {
                return takeJoin(parish);
            }
            int kind = kindInHand();
            return kind >= 0 && takeTeam(parish, kind);
        }

        private boolean takeField(Parish parish) {
            if (parish.fields >= MOST_FIELDS) {
                return false;
            }
            int field = parish.addField();
            takeToken();
            return takeCells(parish, field, "stones", STONES)
                && takeCells(parish, field, "trees", TREES)
                && takeMark(parish, field, "in", IN)
                && takeMark(parish, field, "out", OUT)
                && takeMark(parish, field, "wet", WET);
        }

        private boolean takeCells(Parish parish, int field, String word, int what) {
            if (!isWord(word)) {
                return true;
            }
            takeToken();
            int cells = 0;
            int least = 0;
            for (int i = 0; i <= CELLS; i++) {
                if (i > 0 && token != NUMBER) {
                    break;
                }
                if (!isNumber(least, CELLS - 1)) {
                    return false;
                }
                cells |= 1 << number;
                least = number + 1;
                takeToken();
            }
            parish.putMark(field, what, cells);
            return true;
        }

        private boolean takeMark(Parish parish, int field, String word, int what) {
            if (!isWord(word)) {
                return true;
            }
            takeToken();
            if (!isNumber(0, MOST_MARK[what])) {
                return false;
            }
            parish.putMark(field, what, number);
            takeToken();
            return true;
        }

        private boolean takeJoin(Parish parish) {
            takeToken();
            if (!isNumber(0, parish.fields - 1)) {
                return false;
            }
            int from = number;
            takeToken();
            if (!isNumber(0, parish.fields - 1) || number == from) {
                return false;
            }
            parish.joins[from] |= 1 << number;
            takeToken();
            return true;
        }

        private boolean takeTeam(Parish parish, int kind) {
            if (parish.teams >= MOST_TEAMS) {
                return false;
            }
            int pace = 1;
            takeToken();
            if (isWord("pace")) {
                takeToken();
                if (!isNumber(1, MOST_PACE)) {
                    return false;
                }
                pace = number;
                takeToken();
            }
            parish.addTeam(kind, pace);
            return true;
        }

        private int kindInHand() {
            if (isWord("team")) {
                return 0;
            }
            if (isWord("left")) {
                return 1;
            }
            if (isWord("right")) {
                return 2;
            }
            if (isWord("wide")) {
                return 3;
            }
            if (isWord("shy")) {
                return 4;
            }
            return isWord("slow") ? 5 : -1;
        }

        private boolean isNumber(int least, int most) {
            return token == NUMBER && number >= least && number <= most;
        }

        private boolean isWord(String word) {
            if (token != WORD || behind - start != word.length()) {
                return false;
            }
            for (int i = 0; i < word.length(); i++) {
                if (bytes[start + i] != word.charAt(i)) {
                    return false;
                }
            }
            return true;
        }

        private void takeToken() {
            start = behind;
            while (start < length && bytes[start] == ' ') {
                start++;
            }
            behind = start;
            if (start >= length) {
                token = END;
            } else if (isLetter(bytes[start])) {
                token = WORD;
                while (behind < length && isLetter(bytes[behind])) {
                    behind++;
                }
            } else if (isDigit(bytes[start])) {
                token = NUMBER;
                takeDigits();
            } else {
                token = bytes[start] == ';' ? SIGN : STRANGE;
                behind++;
            }
        }

        private void takeDigits() {
            number = 0;
            while (behind < length && isDigit(bytes[behind])) {
                // Held at what no number may be: a long row of digits would go round.
                number = Math.min(TOO_MUCH, 10 * number + bytes[behind] - '0');
                behind++;
            }
        }

        private static boolean isLetter(int b) {
            return b >= 'a' && b <= 'z';
        }

        private static boolean isDigit(int b) {
            return b >= '0' && b <= '9';
        }
    }

    /** A row of numbers of so many bits; of 0 bits if it is missing. */
    private static final class Sheet {
        private static final int MOST_NUMBERS = 40;

        private int bits;
        private int size;
        private final long[] numbers = new long[MOST_NUMBERS];

        private void begin(int newBits, int newSize) {
            bits = newBits;
            size = newBits == 0 ? 0 : newSize;
            Arrays.fill(numbers, 0L);
        }

        private boolean hasNumbers(int from, int n) {
            // Not from + n, which may go round.
            return from >= 0 && n >= 0 && from <= size && n <= size - from;
        }

        private void put(int i, long v) {
            if (bits == 8) {
                numbers[i] = (byte) v;
            } else if (bits == 16) {
                numbers[i] = (short) v;
            } else {
                numbers[i] = v;
            }
        }
    }
}
