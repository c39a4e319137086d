/** Promises 28 to 33: sheets, and what is laid, drawn and read by them. */
public final class SheetsTest {
    private static final long BEYOND = -1000000001L;
    private static final long KIND = -1000000003L;
    private static final long NONE = -1000000004L;
    private static final long MISSING = -1000000006L;
    private static final long SIZE = -1000000007L;
    private static final int ALL = 0xFFFF;
    private static int wrong = 0;

    private static void due(String call, long got, long want) {
        if (got != want) {
            wrong++;
            System.out.println(call + " answered " + got + ", due is " + want);
        }
    }

    private static void fill(OneFurrow x, int s, int bits, long... numbers) {
        x.sheet(s, bits, numbers.length);
        for (int i = 0; i < numbers.length; i++) {
            x.write(s, i, numbers[i]);
        }
    }

    /** Writes each number again, which tells what it was. */
    private static void dueNumbers(String call, OneFurrow x, int s, long... numbers) {
        for (int i = 0; i < numbers.length; i++) {
            due(call + ", number " + i, x.write(s, i, numbers[i]), numbers[i]);
        }
        due(call + ", no number more", x.write(s, numbers.length, 0), BEYOND);
    }

    public static void main(String[] args) {
        sheet();
        sheetFindings();
        write();
        writeFindings();
        copy();
        copyFindings();
        lays();
        laysFindings();
        draw();
        drawFindings();
        readWhole();
        readPlaces();
        readGates();
        readFindings();
        System.out.println(wrong == 0 ? "all answers are as due" : wrong + " answers are not as due");
        if (wrong != 0) {
            System.exit(1);
        }
    }

    private static void sheet() {
        OneFurrow x = new OneFurrow();
        for (int s = 0; s < 4; s++) {
            due("28: missing at first", x.write(s, 0, 0), MISSING);
            due("28: sheet", x.sheet(s, s == 0 ? 8 : s == 1 ? 16 : 64, 10 * s), 10 * s);
        }
        due("28: 40 numbers", x.sheet(0, 8, 40), 40);
        due("28: the last", x.write(0, 39, 7), 0);
        due("28: made anew", x.sheet(0, 8, 40), 40);
        due("28: all 0", x.write(0, 39, 0), 0);
        due("28: an empty one", x.sheet(0, 64, 0), 0);
        due("28: has no numbers", x.write(0, 0, 0), BEYOND);
        due("28: missing again", x.sheet(0, 0, 40), 0);
        due("28: it is", x.write(0, 0, 0), MISSING);
        due("28: missing twice", x.sheet(0, 0, 0), 0);
    }

    private static void sheetFindings() {
        OneFurrow x = new OneFurrow();
        due("28: no such sheet", x.sheet(4, 8, 1), BEYOND);
        due("28: no such sheet", x.sheet(-1, 8, 1), BEYOND);
        for (int bits : new int[] {-8, 1, 7, 9, 15, 17, 32, 63, 65, 128}) {
            due("28: bits " + bits, x.sheet(0, bits, 1), BEYOND);
        }
        due("28: n -1", x.sheet(0, 8, -1), SIZE);
        due("28: n -1 with bits 0", x.sheet(0, 0, -1), SIZE);
        due("28: n 41", x.sheet(0, 8, 41), BEYOND);
        due("28: n 41 with bits 0", x.sheet(0, 0, 41), BEYOND);
        due("28: the sheet is asked first", x.sheet(4, 8, -1), BEYOND);
        due("28: so are the bits", x.sheet(0, 32, -1), BEYOND);
        due("28: least n", x.sheet(0, 64, Integer.MIN_VALUE), SIZE);
        due("28: most n", x.sheet(0, 64, Integer.MAX_VALUE), BEYOND);
        due("28: nothing came", x.write(0, 0, 0), MISSING);
        fill(x, 0, 8, 5);
        x.sheet(0, 8, -1);
        x.sheet(0, 8, 41);
        x.sheet(0, 0, 41);
        dueNumbers("28: nothing changed", x, 0, 5);
    }

    private static void write() {
        OneFurrow x = new OneFurrow();
        long big = 0x123456789ABCDEF0L;
        fill(x, 0, 8, big, 127, 128, 255, 256, -129);
        dueNumbers("29: 8 bits", x, 0, (byte) 0xF0, 127, -128, -1, 0, 127);
        fill(x, 1, 16, big, 32767, 32768, 65535, 65536, 255);
        dueNumbers("29: 16 bits", x, 1, (short) 0xDEF0, 32767, -32768, -1, 0, 255);
        fill(x, 2, 64, big, Long.MIN_VALUE, Long.MAX_VALUE, -1, 1L << 32);
        dueNumbers("29: 64 bits", x, 2, big, Long.MIN_VALUE, Long.MAX_VALUE, -1, 1L << 32);
    }

    private static void writeFindings() {
        OneFurrow x = new OneFurrow();
        due("29: no such sheet", x.write(4, 0, 0), BEYOND);
        due("29: no such sheet", x.write(-1, 0, 0), BEYOND);
        due("29: missing", x.write(0, 0, 0), MISSING);
        due("29: missing ahead of no such number", x.write(0, 40, 0), MISSING);
        x.sheet(0, 64, 3);
        due("29: number 3", x.write(0, 3, 0), BEYOND);
        due("29: number -1", x.write(0, -1, 0), BEYOND);
        int findings = x.status(-1);
        x.write(0, 0, BEYOND);
        due("29: a number like a finding", x.write(0, 0, 0), BEYOND);
        due("29: it is none", x.status(-1), findings);
    }

    private static void copy() {
        OneFurrow x = new OneFurrow();
        fill(x, 0, 16, 1, 2, 3, 4, 5);
        x.sheet(1, 16, 3);
        due("30: copy", x.copy(0, 1, 1, 0, 2), 2);
        dueNumbers("30: it came", x, 1, 2, 3, 0);
        dueNumbers("30: the first stays", x, 0, 1, 2, 3, 4, 5);
        due("30: upwards on itself", x.copy(0, 0, 0, 1, 4), 4);
        dueNumbers("30: as they all were", x, 0, 1, 1, 2, 3, 4);
        due("30: downwards on itself", x.copy(0, 1, 0, 0, 4), 4);
        dueNumbers("30: as they all were", x, 0, 1, 2, 3, 4, 4);
        due("30: none", x.copy(0, 5, 1, 3, 0), 0);
        due("30: all", x.copy(1, 0, 0, 2, 3), 3);
        dueNumbers("30: at the end", x, 0, 1, 2, 2, 3, 0);
    }

    private static void copyFindings() {
        OneFurrow x = new OneFurrow();
        fill(x, 0, 8, 1, 2, 3);
        fill(x, 1, 8, 4, 5);
        fill(x, 2, 16, 6, 7);
        due("30: no such sheet", x.copy(4, 0, 0, 0, 1), BEYOND);
        due("30: no such sheet", x.copy(-1, 0, 0, 0, 1), BEYOND);
        due("30: no such other sheet", x.copy(0, 0, 4, 0, 1), BEYOND);
        due("30: no such sheet ahead of missing", x.copy(3, 0, -1, 0, 1), BEYOND);
        due("30: missing", x.copy(3, 0, 0, 0, 1), MISSING);
        due("30: the other is missing", x.copy(0, 0, 3, 0, 1), MISSING);
        due("30: missing ahead of all else", x.copy(2, -1, 3, 0, 1), MISSING);
        due("30: other bits", x.copy(0, 0, 2, 0, 1), KIND);
        due("30: other bits ahead of too many", x.copy(0, 0, 2, 0, 9), KIND);
        due("30: too many of the first", x.copy(0, 2, 1, 0, 2), BEYOND);
        due("30: too many of the other", x.copy(0, 0, 1, 0, 3), BEYOND);
        due("30: from -1", x.copy(0, -1, 1, 0, 1), BEYOND);
        due("30: to -1", x.copy(0, 0, 1, -1, 1), BEYOND);
        due("30: n -1", x.copy(0, 1, 1, 1, -1), BEYOND);
        due("30: most from", x.copy(0, Integer.MAX_VALUE, 1, 0, 1), BEYOND);
        due("30: most to", x.copy(0, 0, 1, Integer.MAX_VALUE, 1), BEYOND);
        due("30: most n", x.copy(0, 1, 1, 1, Integer.MAX_VALUE), BEYOND);
        due("30: least n", x.copy(0, 1, 1, 1, Integer.MIN_VALUE), BEYOND);
        dueNumbers("30: nothing changed", x, 1, 4, 5);
    }

    private static void lays() {
        OneFurrow x = new OneFurrow();
        x.field();
        x.field();
        x.set(0, 0, 0b0011110000);
        x.set(0, 1, 0b1111000000);
        fill(x, 0, 8, 1, 2, 0, 3, 0, 1, 2, -1, 1, 257);
        due("31: lays", x.lays(0, 0), 8);
        due("31: STONES", x.of(0, 0), 0b1110100001);
        due("31: TREES", x.of(0, 1), 0b0011000010);
        due("31: the other field stays", x.of(1, 6), ALL);
        fill(x, 1, 64, 1L << 32 | 1, 2, 1);
        x.set(0, 0, 0);
        x.set(0, 1, 0);
        due("31: the whole number is asked", x.lays(1, 0), 2);
        due("31: STONES", x.of(0, 0), 0b100);
        due("31: TREES", x.of(0, 1), 0b010);
        x.sheet(2, 16, 40);
        for (int i = 0; i < 40; i++) {
            x.write(2, i, 1);
        }
        due("31: those behind 15 are left out", x.lays(2, 1), 16);
        due("31: STONES", x.of(1, 0), ALL);
        x.sheet(2, 16, 0);
        due("31: no numbers", x.lays(2, 1), 0);
    }

    private static void laysFindings() {
        OneFurrow x = new OneFurrow();
        due("31: no such sheet", x.lays(4, 0), BEYOND);
        due("31: no such sheet", x.lays(-1, 0), BEYOND);
        due("31: missing ahead of no such field", x.lays(0, 0), MISSING);
        x.sheet(0, 8, 1);
        due("31: no such field", x.lays(0, 0), BEYOND);
        x.field();
        due("31: no such field", x.lays(0, -1), BEYOND);
        due("31: field 0", x.lays(0, 0), 1);
    }

    private static OneFurrow cornerOfFive() {
        OneFurrow x = new OneFurrow();
        x.field();
        for (int kind = 0; kind < 6; kind++) {
            x.team(kind, 1);
        }
        x.set(0, 0, ALL & ~(1 << 0 | 1 << 1 | 1 << 2 | 1 << 6 | 1 << 10));
        return x;
    }

    private static void draw() {
        OneFurrow x = cornerOfFive();
        fill(x, 0, 8, 9, 9, 9, 9, 9, 9, 9);
        due("32: draw", x.draw(0, 0, 0), 5);
        dueNumbers("32: the others stay", x, 0, 0, 1, 2, 6, 10, 9, 9);
        fill(x, 1, 64, 9, 9, 9);
        due("32: as far as it has numbers", x.draw(1, 1, 0), 3);
        dueNumbers("32: LEFT's", x, 1, 10, 6, 2);
        x.sheet(1, 16, 0);
        due("32: no numbers", x.draw(1, 0, 0), 0);
    }

    private static void drawFindings() {
        OneFurrow x = cornerOfFive();
        due("32: no such sheet", x.draw(4, 0, 0), BEYOND);
        due("32: no such sheet", x.draw(-1, 0, 0), BEYOND);
        due("32: missing ahead of no such team", x.draw(0, 6, 0), MISSING);
        fill(x, 0, 8, 9, 9);
        due("32: no such team", x.draw(0, 6, 0), BEYOND);
        due("32: no such team", x.draw(0, -1, 0), BEYOND);
        due("32: no such field", x.draw(0, 0, 1), BEYOND);
        due("32: no such field", x.draw(0, 0, -1), BEYOND);
        x.set(0, 2, 2);
        due("32: no whole furrow", x.draw(0, 0, 0), NONE);
        dueNumbers("32: nothing changed", x, 0, 9, 9);
    }

    private static void readWhole() {
        OneFurrow x = cornerOfFive();
        for (int kind = 0; kind < 6; kind++) {
            x.sheet(0, 8, 5);
            x.draw(0, kind, 0);
            due("33: what is drawn, " + kind, x.read(0, kind, 0), 0);
        }
        fill(x, 0, 16, 10, 6, 2, 1, 0);
        int[] due = {0, 0, 4, 0, 0, 0};
        for (int kind = 0; kind < 6; kind++) {
            due("33: to the left, " + kind, x.read(0, kind, 0), due[kind]);
        }
        fill(x, 0, 16, 0, 1, 2, 6);
        due("33: not whole", x.read(0, 0, 0), 100);
        x.sheet(0, 16, 0);
        due("33: no numbers", x.read(0, 0, 0), 100);
        x.set(0, 0, ALL);
        due("33: no numbers, no earth", x.read(0, 0, 0), 100);
        x.sheet(0, 16, 1);
        due("33: no earth", x.read(0, 0, 0), 1);
    }

    private static void readPlaces() {
        OneFurrow x = cornerOfFive();
        fill(x, 0, 64, 0, 1, 2, 6, 10, 10);
        due("33: a cell twice", x.read(0, 0, 0), 6);
        fill(x, 0, 64, 0, 2, 1, 6, 10);
        due("33: not beside", x.read(0, 0, 0), 2);
        fill(x, 0, 64, 0, 1, 5, 6, 10);
        due("33: a stone", x.read(0, 0, 0), 3);
        fill(x, 0, 64, 0, 1, 2, 1L << 32 | 6, 10);
        due("33: no cell", x.read(0, 0, 0), 4);
        fill(x, 0, 64, -1);
        due("33: no cell", x.read(0, 0, 0), 1);
        fill(x, 0, 64, 16);
        due("33: no cell", x.read(0, 0, 0), 1);
        x.set(0, 0, ALL & ~(1 << 3 | 1 << 4));
        fill(x, 0, 64, 3, 4);
        due("33: a row's end and the next one's beginning", x.read(0, 0, 0), 2);
        x.set(0, 0, ALL & ~(1 << 0 | 1 << 1 | 1 << 5 | 1 << 6));
        fill(x, 0, 8, 0, 1, 5, 6);
        due("33: turn behind turn", x.read(0, 0, 0), 0);
        due("33: WIDE may not", x.read(0, 3, 0), 4);
        due("33: RIGHT may not", x.read(0, 2, 0), 4);
        due("33: LEFT may not", x.read(0, 1, 0), 3);
        x.set(0, 1, 1 << 4);
        due("33: SHY begins beside a tree", x.read(0, 4, 0), 3);
        fill(x, 0, 8, 6, 5, 1, 0);
        due("33: SHY may not go beside one", x.read(0, 4, 0), 2);
        due("33: LEFT doesn't mind the tree", x.read(0, 1, 0), 3);
    }

    private static void readGates() {
        OneFurrow x = cornerOfFive();
        fill(x, 0, 8, 0, 1, 2, 6, 10);
        x.set(0, 2, 10);
        due("33: not IN", x.read(0, 0, 0), 1);
        x.set(0, 2, 0);
        due("33: IN", x.read(0, 0, 0), 0);
        x.set(0, 3, 10);
        due("33: OUT", x.read(0, 0, 0), 0);
        x.set(0, 3, 6);
        due("33: not OUT", x.read(0, 0, 0), 100);
        x.set(0, 3, 0);
        due("33: OUT is where it begins", x.read(0, 0, 0), 100);
        x.set(0, 3, 15);
        due("33: OUT is a stone", x.read(0, 0, 0), 100);
        x.set(0, 2, 15);
        due("33: IN is a stone", x.read(0, 0, 0), 1);
    }

    private static void readFindings() {
        OneFurrow x = cornerOfFive();
        due("33: no such sheet", x.read(4, 0, 0), BEYOND);
        due("33: no such sheet", x.read(-1, 0, 0), BEYOND);
        due("33: missing ahead of no such team", x.read(0, 6, 0), MISSING);
        x.sheet(0, 8, 1);
        due("33: no such team", x.read(0, 6, 0), BEYOND);
        due("33: no such team", x.read(0, -1, 0), BEYOND);
        due("33: no such field", x.read(0, 0, 1), BEYOND);
        due("33: no such field", x.read(0, 0, -1), BEYOND);
    }
}
