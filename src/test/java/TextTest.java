/** Promises 25 to 27: the tape and the text of a parish. */
public final class TextTest {
    private static final long BEYOND = -1000000001L;
    private static final long FULL = -1000000002L;
    private static int wrong = 0;

    private static void due(String call, long got, long want) {
        if (got != want) {
            wrong++;
            System.out.println(call + " answered " + got + ", due is " + want);
        }
    }

    private static void feed(OneFurrow x, String text) {
        for (int i = 0; i < text.length(); i++) {
            x.feed(text.charAt(i), 1);
        }
    }

    private static void dueOn(OneFurrow x, String text, int want) {
        feed(x, text);
        due("27: parish() of '" + text + "'", x.parish(), want);
        due("27: the tape is empty behind '" + text + "'", x.count(4), 0);
    }

    private static void dueItems(String text, int items) {
        dueOn(new OneFurrow(), text, items);
    }

    /** With two fields and no teams: a fault there, and nothing has changed. */
    private static void dueFault(String text, int place) {
        OneFurrow x = new OneFurrow();
        x.field();
        x.field();
        dueOn(x, text, -1 - place);
        due("27: no field of '" + text + "'", x.count(0), 2);
        due("27: no team of '" + text + "'", x.count(1), 0);
        due("27: no join of '" + text + "'", x.count(3), 0);
        due("27: no finding of '" + text + "'", x.status(-1), 0);
    }

    public static void main(String[] args) {
        feed();
        feedFull();
        wipe();
        fields();
        joins();
        teams();
        blanks();
        numbers();
        faultsOfItems();
        faultsOfFields();
        faultsOfTeams();
        faultsOfBytes();
        faultsOfTooMany();
        longText();
        System.out.println(wrong == 0 ? "all answers are as due" : wrong + " answers are not as due");
        if (wrong != 0) {
            System.exit(1);
        }
    }

    private static void feed() {
        OneFurrow x = new OneFurrow();
        due("25: n 0", x.feed(0, 0), BEYOND);
        due("25: n 5", x.feed(0, 5), BEYOND);
        due("25: n -1", x.feed(0, -1), BEYOND);
        due("25: 4 bytes", x.feed(0x7465616D, 4), 4);
        due("25: they are 'team'", x.parish(), 1);
        due("25: 3 bytes", x.feed(0x78736879, 3), 3);
        due("25: they are 'shy'", x.parish(), 1);
        due("25: 2 bytes", x.feed(0x7878736C, 2), 2);
        due("25: 2 bytes more", x.feed(0x78786F77, 2), 4);
        due("25: they are 'slow'", x.parish(), 1);
        due("25: kinds", x.teamOf(0, 0) * 100 + x.teamOf(1, 0) * 10 + x.teamOf(2, 0), 45);
        due("25: a byte above 127", x.feed(-1, 1), 1);
        due("25: it begins no token", x.parish(), -1);
    }

    private static void feedFull() {
        OneFurrow x = new OneFurrow();
        for (int i = 1; i <= 29; i++) {
            due("25: feed", x.feed(0, 4), 4 * i);
        }
        due("25: 117", x.feed(0, 1), 117);
        due("25: 4 more are too many", x.feed(0, 4), FULL);
        due("25: none came", x.count(4), 117);
        due("25: 3 more are not", x.feed(0, 3), 120);
        due("25: 121", x.feed(0, 1), FULL);
        due("25: BEYOND ahead of FULL", x.feed(0, 5), BEYOND);
        due("26: wipe()", x.wipe(), 120);
        due("25: room again", x.feed(0, 1), 1);
    }

    private static void wipe() {
        OneFurrow x = new OneFurrow();
        due("26: empty", x.wipe(), 0);
        feed(x, "field");
        due("26: 5", x.wipe(), 5);
        due("26: count(4)", x.count(4), 0);
        feed(x, "left");
        due("26: what was there is gone", x.parish(), 1);
        due("26: no field came", x.count(0), 0);
    }

    private static void dueField(OneFurrow x, int field, int... want) {
        for (int what = 0; what < want.length; what++) {
            due("27: of(" + field + ", " + what + ")", x.of(field, what), want[what]);
        }
    }

    private static void fields() {
        OneFurrow x = new OneFurrow();
        dueOn(x, "field", 1);
        dueField(x, 0, 0, 0, -1, -1, 0, 100);
        dueOn(x, "field stones 0 5 15 trees 1 5 in 0 out 15 wet 99", 1);
        dueField(x, 1, 0x8021, 0x22, 0, 15, 99, 100);
        dueOn(x, "field stones 7; field trees 8; field in 3; field out 4 wet 0", 4);
        dueField(x, 2, 1 << 7, 0, -1, -1, 0, 100);
        dueField(x, 3, 0, 1 << 8, -1, -1, 0, 100);
        dueField(x, 4, 0, 0, 3, -1, 0, 100);
        dueField(x, 5, 0, 0, -1, 4, 0, 100);
        due("27: six fields", x.count(0), 6);
        dueItems("field stones 0 1 2 3 4 5 6 7 8 9 10 11 12 13 14 15 trees 0 1 2 3 4 5 6 7 8 9 10 11 12 13 14 15 wet 1", 1);
    }

    private static void joins() {
        OneFurrow x = new OneFurrow();
        x.field();
        dueOn(x, "field; join 0 1; field; join 2 0; join 0 1", 5);
        due("27: joined(0)", x.joined(0), 2);
        due("27: joined(1)", x.joined(1), 0);
        due("27: joined(2)", x.joined(2), 1);
    }

    private static void teams() {
        OneFurrow x = new OneFurrow();
        dueOn(x, "team;left pace 9;right pace 1;wide;shy pace 3;slow pace 7", 6);
        int[] paces = {1, 9, 1, 1, 3, 7};
        for (int i = 0; i < 6; i++) {
            due("27: kind " + i, x.teamOf(i, 0), i);
            due("27: pace " + i, x.teamOf(i, 1), paces[i]);
        }
    }

    private static void blanks() {
        dueItems("  field  ", 1);
        dueItems("field;field", 2);
        dueItems(" field ; field ; join 0 1 ", 3);
        dueItems("field stones0 1trees2in3out4wet5;field;join0 1;shy pace3", 4);
        dueItems("shypace3", -1);
        dueItems("fieldstones", -1);
        dueItems("field stones1", 1);
        dueItems("team pace3;left", 2);
        dueItems("fi eld", -1);
    }

    private static void numbers() {
        dueItems("field stones 000 0015", 1);
        dueItems("field wet 00000000000000000000000000099", 1);
        dueFault("field wet 100", 10);
        dueFault("field wet 4294967297", 10);
        dueFault("field wet 99999999999999999999999999999999", 10);
        dueFault("field stones 4294967296", 13);
        dueFault("join 0 4294967297", 7);
        dueFault("team pace 4294967297", 10);
        dueFault("field wet -1", 10);
    }

    private static void faultsOfItems() {
        dueFault("", 0);
        dueFault("   ", 3);
        dueFault(";", 0);
        dueFault("field;", 6);
        dueFault("field; ", 7);
        dueFault("field;;field", 6);
        dueFault("field field", 6);
        dueFault("field 3", 6);
        dueFault("fields", 0);
        dueFault("fiel", 0);
        dueFault("fieldz", 0);
        dueFault("fielda", 0);
        dueFault("zfield", 0);
        dueFault("x", 0);
        dueFault("stones 1", 0);
        dueFault("5", 0);
        dueFault("field; pace 3", 7);
        dueFault("join", 4);
        dueFault("join 0", 6);
        dueFault("join 0 ", 7);
        dueFault("join 0 0", 7);
        dueFault("join 2 0", 5);
        dueFault("join 0 2", 7);
        dueFault("join 0;", 6);
        dueFault("join ; 1", 5);
        dueFault("join 0 1 1", 9);
        dueFault("join field", 5);
        dueFault("join 2 0; field", 5);
        dueFault("field; join 0 2; join 2 0; join 2 3", 34);
    }

    private static void faultsOfFields() {
        dueFault("field stones", 12);
        dueFault("field stones;", 12);
        dueFault("field stones trees 1", 13);
        dueFault("field stones 16", 13);
        dueFault("field stones 3 3", 15);
        dueFault("field stones 3 2", 15);
        dueFault("field stones 15 16", 16);
        dueFault("field trees 4 3", 14);
        dueFault("field trees", 11);
        dueFault("field trees 1 stones 2", 14);
        dueFault("field in 1 trees 2", 11);
        dueFault("field out 1 in 2", 12);
        dueFault("field wet 1 out 2", 12);
        dueFault("field in", 8);
        dueFault("field in 16", 9);
        dueFault("field in 1 2", 11);
        dueFault("field in out 3", 9);
        dueFault("field out 16", 10);
        dueFault("field out;", 9);
        dueFault("field wet;", 9);
        dueFault("field wet 5 wet 6", 12);
        dueFault("field stones 1 stones 2", 15);
        dueFault("field stones 0 1 2 3 4 5 6 7 8 9 10 11 12 13 14 15 15", 51);
        dueFault("field pace 3", 6);
    }

    private static void faultsOfTeams() {
        dueFault("team pace", 9);
        dueFault("team pace 0", 10);
        dueFault("team pace 10", 10);
        dueFault("team pace;", 9);
        dueFault("team 3", 5);
        dueFault("team pace 3 pace 4", 12);
        dueFault("team pace 3 4", 12);
        dueFault("team left", 5);
        dueFault("team;left;right;wide;shy;slow;stones", 30);
        dueFault("shyslow", 0);
        dueFault("field; join 0 1; team pace 9; left pace 0", 40);
    }

    private static void faultsOfBytes() {
        dueFault("Field", 0);
        dueFault("fielD", 0);
        dueFault("field\t", 5);
        dueFault("field,", 5);
        dueFault("field {", 6);
        dueFault("field `", 6);
        dueFault("field stones 1:", 14);
        dueFault("field stones 1/", 14);
        dueFault("field\n", 5);
        dueFault("field " + (char) 233, 6);
        dueFault("field" + (char) 0, 5);
    }

    private static void faultsOfTooMany() {
        OneFurrow x = new OneFurrow();
        dueOn(x, "field;field;field;field;field;field;field", -37);
        due("27: none came", x.count(0), 0);
        dueOn(x, "field;field;field;field;field;field", 6);
        dueOn(x, "team;field", -6);
        dueOn(x, "team; team; team; team; team; team; team pace 3", -37);
        due("27: none came", x.count(1), 0);
        dueOn(x, "team;team;team;team;team;team", 6);
        dueOn(x, "slow", -1);
        dueOn(x, "join 5 0;left", -10);
        due("27: not joined", x.joined(5), 0);
        dueOn(x, "join 5 0", 1);
        due("27: joined", x.joined(5), 1);
        due("27: no findings", x.status(-1), 0);
    }

    private static void longText() {
        OneFurrow x = new OneFurrow();
        StringBuilder text = new StringBuilder("field;field;");
        for (int i = 0; i < 11; i++) {
            text.append("join 0 1;");
        }
        dueOn(x, text.append("join 1 0 ").toString(), 14);
        due("27: it had as many bytes as can be", text.length(), 120);
        due("27: count(3)", x.count(3), 2);
        StringBuilder digits = new StringBuilder("team pace ");
        while (digits.length() < 119) {
            digits.append('0');
        }
        dueOn(x, digits.append('9').toString(), 1);
        due("27: pace 9", x.teamOf(0, 1), 9);
    }
}
