/** Promises 34 to 38: images, counts and the status. */
public final class ImagesTest {
    private static final long BEYOND = -1000000001L;
    private static final long NONE = -1000000004L;
    private static int wrong = 0;

    private static void due(String call, long got, long want) {
        if (got != want) {
            wrong++;
            System.out.println(call + " answered " + got + ", due is " + want);
        }
    }

    public static void main(String[] args) {
        imageKeepsAll();
        imageLeavesOut();
        latestImage();
        tear();
        count();
        status();
        System.out.println(wrong == 0 ? "all answers are as due" : wrong + " answers are not as due");
        if (wrong != 0) {
            System.exit(1);
        }
    }

    private static void imageKeepsAll() {
        OneFurrow x = new OneFurrow();
        x.field();
        x.field();
        x.join(0, 1, true);
        x.team(3, 4);
        int[] was = {3, 5, 9, 11, 13, 17};
        for (int what = 0; what < 6; what++) {
            x.set(1, what, was[what]);
        }
        due("34: image()", x.image(), 1);
        for (int what = 0; what < 6; what++) {
            x.set(1, what, was[what] + 1);
        }
        x.join(0, 1, false);
        x.join(1, 0, true);
        x.pace(0, 9);
        x.field();
        for (int what = 0; what < 6; what++) {
            x.set(2, what, was[what]);
        }
        x.join(2, 1, true);
        x.team(5, 1);
        for (int again = 0; again < 2; again++) {
            due("35: undo()", x.undo(), 2);
            due("35: TEAMS", x.count(1), 1);
            due("35: KIND", x.teamOf(0, 0), 3);
            due("35: PACE", x.teamOf(0, 1), 4);
            due("35: joined(0)", x.joined(0), 2);
            due("35: joined(1)", x.joined(1), 0);
            for (int what = 0; what < 6; what++) {
                due("35: of(1, " + what + ")", x.of(1, what), was[what]);
            }
            x.set(1, 0, 0);
            x.pace(0, 1);
        }
        due("35: a new field is new", x.field(), 2);
        due("35: not joined", x.joined(2), 0);
        int[] first = {0, 0, -1, -1, 0, 100};
        for (int what = 0; what < 6; what++) {
            due("35: of(2, " + what + ") at first", x.of(2, what), first[what]);
        }
        due("35: a new team is new", x.team(0, 2), 1);
        due("35: its KIND", x.teamOf(1, 0), 0);
    }

    private static void imageLeavesOut() {
        OneFurrow x = new OneFurrow();
        x.field();
        x.image();
        x.feed(0, 3);
        x.sheet(0, 8, 2);
        x.write(0, 1, 7);
        x.of(9, 0);
        due("35: undo()", x.undo(), 1);
        due("35: THE TAPE stays", x.count(4), 3);
        due("35: sheets stay", x.write(0, 1, 8), 7);
        due("35: status stays", x.status(0), 1);
        x.image();
        x.wipe();
        x.sheet(0, 0, 0);
        x.undo();
        due("35: THE TAPE stays empty", x.count(4), 0);
        due("35: sheets stay missing", x.write(0, 1, 8), -1000000006L);
    }

    private static void latestImage() {
        OneFurrow x = new OneFurrow();
        due("35: nothing is kept", x.undo(), NONE);
        x.image();
        x.field();
        due("34: image() again", x.image(), 1);
        x.field();
        due("35: the latest", x.undo(), 1);
        due("35: it stays", x.undo(), 1);
        due("35: count(0)", x.count(0), 1);
    }

    private static void tear() {
        OneFurrow x = new OneFurrow();
        due("36: nothing", x.tear(), 0);
        x.image();
        x.image();
        due("36: tear()", x.tear(), 1);
        due("36: no other one", x.tear(), 0);
        x.field();
        due("36: nothing is kept", x.undo(), NONE);
        due("36: nothing changed", x.count(0), 1);
        x.image();
        due("36: kept again", x.undo(), 1);
    }

    private static void count() {
        OneFurrow x = new OneFurrow();
        x.field();
        x.field();
        x.field();
        x.team(0, 1);
        x.set(1, 0, 3);
        x.set(1, 1, 6);
        x.set(2, 0, 0xFFFF);
        x.join(0, 1, true);
        x.join(1, 0, true);
        x.feed(0, 4);
        due("37: FIELDS", x.count(0), 3);
        due("37: TEAMS", x.count(1), 1);
        due("37: EARTH", x.count(2), 16 + 13);
        due("37: joins", x.count(3), 2);
        due("37: bytes", x.count(4), 4);
        due("37: count(5)", x.count(5), BEYOND);
        due("37: count(-1)", x.count(-1), BEYOND);
        due("37: count(least)", x.count(Integer.MIN_VALUE), BEYOND);
    }

    private static void status() {
        OneFurrow x = new OneFurrow();
        x.of(0, 0);
        for (int i = 0; i < 8; i++) {
            x.field();
        }
        x.team(1, 1);
        x.as(0, 2);
        x.as(0, 2);
        x.as(0, 2);
        x.undo();
        x.undo();
        x.undo();
        x.undo();
        for (int i = 0; i < 5; i++) {
            x.write(0, 0, 0);
            x.sheet(0, 0, -1);
        }
        x.sheet(0, 0, -1);
        int[] due = {1, 2, 3, 4, 0, 5, 6};
        for (int which = 0; which < 7; which++) {
            due("38: status(" + which + ")", x.status(which), due[which]);
        }
        due("38: all", x.status(-1), 21);
        due("38: status(7)", x.status(7), BEYOND);
        due("38: counted from then on", x.status(0), 2);
        due("38: status(-2)", x.status(-2), BEYOND);
        due("38: counted, too", x.status(-1), 23);
        x.image();
        x.field();
        x.undo();
        due("38: undo() takes none back", x.status(1), 3);
    }
}
