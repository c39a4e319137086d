import java.util.ArrayList;
import java.util.Arrays;
import java.util.HashMap;
import java.util.HashSet;
import java.util.List;
import java.util.Map;
import java.util.Random;
import java.util.Set;
import java.util.TreeSet;
import java.util.function.LongSupplier;
import java.util.regex.Matcher;
import java.util.regex.Pattern;

/**
 * Every promise against a model that is written another way, from the document's words alone:
 * all furrows and all rows are listed, then looked through. The runs of calls are always the same.
 */
public final class ModelTest {
    private static final int RUNS = 300;
    private static final int CALLS = 300;

    public static void main(String[] args) {
        int wrong = 0;
        for (int seed = 0; seed < RUNS && wrong < 10; seed++) {
            wrong += new Run(seed).go();
        }
        System.out.println(wrong == 0 ? "all answers are as due" : wrong + " runs are not as due");
        if (wrong != 0) {
            System.exit(1);
        }
    }

    /** What an act answers instead, thrown from wherever it is seen. */
    private static final class Finding extends RuntimeException {
        private static final long serialVersionUID = 1L;
        static final int BEYOND = 0, FULL = 1, KIND = 2, NONE = 3, MISSING = 5, SIZE = 6;
        final int which;

        Finding(int which) {
            super(null, null, false, false);
            this.which = which;
        }
    }

    private static void ask(boolean holds, int which) {
        if (!holds) {
            throw new Finding(which);
        }
    }

    private static boolean within(long v, long least, long most) {
        return least <= v && v <= most;
    }

    private static final class Field {
        Set<Integer> stones = new TreeSet<>();
        Set<Integer> trees = new TreeSet<>();
        int in = -1;
        int out = -1;
        int wet = 0;
        int worth = 100;
        Set<Integer> joins = new TreeSet<>();

        Field twin() {
            Field f = new Field();
            f.stones.addAll(stones);
            f.trees.addAll(trees);
            f.in = in;
            f.out = out;
            f.wet = wet;
            f.worth = worth;
            f.joins.addAll(joins);
            return f;
        }

        Set<Integer> earth() {
            Set<Integer> earth = new TreeSet<>();
            for (int cell = 0; cell < 16; cell++) {
                if (!stones.contains(cell) && !trees.contains(cell)) {
                    earth.add(cell);
                }
            }
            return earth;
        }

        int colours() {
            int colours = 0;
            for (int cell : earth()) {
                colours += odd(cell) ? -1 : 1;
            }
            return colours;
        }
    }

    private static boolean odd(int cell) {
        return (cell / 4 + cell % 4) % 2 == 1;
    }

    private static int setBits(Set<Integer> set) {
        int bits = 0;
        for (int member : set) {
            bits += 1 << member;
        }
        return bits;
    }

    private static Set<Integer> members(int bits) {
        Set<Integer> set = new TreeSet<>();
        for (int i = 0; i < 16; i++) {
            if ((bits & 1 << i) != 0) {
                set.add(i);
            }
        }
        return set;
    }

    private static class Team {
        int pace;

        int kind() {
            return 0;
        }

        int dear() {
            return 2;
        }

        boolean may(Field field, int cell, int before, int direction, boolean turned) {
            return true;
        }

        static Team of(int kind, int pace) {
            Team team = kind == 0 ? new Team() : kind == 1 ? new Left() : kind == 2 ? new Right()
                : kind == 3 ? new Wide() : kind == 4 ? new Shy() : new Slow();
            team.pace = pace;
            return team;
        }

        boolean is(int kind) {
            Class<?> type = of(kind, 1).getClass();
            return type.isInstance(this);
        }
    }

    private static class Left extends Team {
        @Override int kind() {
            return 1;
        }

        @Override int dear() {
            return super.dear() - 1;
        }

        @Override boolean may(Field field, int cell, int before, int direction, boolean turned) {
            return super.may(field, cell, before, direction, turned) && !(before >= 0 && direction == (before + 1) % 4);
        }
    }

    private static final class Right extends Team {
        @Override int kind() {
            return 2;
        }

        @Override boolean may(Field field, int cell, int before, int direction, boolean turned) {
            return super.may(field, cell, before, direction, turned) && !(before >= 0 && direction == (before + 3) % 4);
        }
    }

    private static class Wide extends Team {
        @Override int kind() {
            return 3;
        }

        @Override int dear() {
            return super.dear() + 1;
        }

        @Override boolean may(Field field, int cell, int before, int direction, boolean turned) {
            boolean turns = before >= 0 && direction != before;
            return super.may(field, cell, before, direction, turned) && !(turns && turned);
        }
    }

    private static final class Shy extends Left {
        @Override int kind() {
            return 4;
        }

        @Override boolean may(Field field, int cell, int before, int direction, boolean turned) {
            for (int tree : field.trees) {
                if (directionFrom(tree, cell) >= 0) {
                    return false;
                }
            }
            return super.may(field, cell, before, direction, turned);
        }
    }

    private static final class Slow extends Wide {
        @Override int kind() {
            return 5;
        }

        @Override int dear() {
            return 2 * super.dear();
        }
    }

    private static int directionFrom(int cell, int next) {
        int rows = next / 4 - cell / 4;
        int columns = next % 4 - cell % 4;
        if (Math.abs(rows) + Math.abs(columns) != 1) {
            return -1;
        }
        return rows == -1 ? 0 : columns == 1 ? 1 : rows == 1 ? 2 : 3;
    }

    /** All furrows of a kind in a field: the whole ones, and the length of the longest. */
    private static final class Listed {
        final List<int[]> whole = new ArrayList<>();
        final List<Integer> turns = new ArrayList<>();
        int longest = 0;

        static final Map<String, Listed> KNOWN = new HashMap<>();

        static Listed of(Team team, Field field) {
            String key = team.kind() + " " + field.stones + field.trees + field.in + " " + field.out;
            Listed listed = KNOWN.get(key);
            if (listed == null) {
                listed = new Listed();
                Set<Integer> earth = field.earth();
                for (int start : earth) {
                    if (field.in < 0 || field.in == start) {
                        listed.go(team, field, earth, new ArrayList<>(List.of(start)));
                    }
                }
                KNOWN.put(key, listed);
            }
            return listed;
        }

        private void go(Team team, Field field, Set<Integer> earth, List<Integer> row) {
            int last = row.get(row.size() - 1);
            if (field.out < 0 || field.out == last) {
                longest = Math.max(longest, row.size());
                if (row.size() == earth.size()) {
                    whole.add(row.stream().mapToInt(i -> i).toArray());
                    turns.add(turnsOf(row));
                }
            }
            for (int next : earth) {
                if (!row.contains(next) && goesOn(team, field, row, next)) {
                    row.add(next);
                    go(team, field, earth, row);
                    row.remove(row.size() - 1);
                }
            }
        }

        static boolean goesOn(Team team, Field field, List<Integer> row, int next) {
            int n = row.size();
            int direction = directionFrom(row.get(n - 1), next);
            int before = n < 2 ? -1 : directionFrom(row.get(n - 2), row.get(n - 1));
            boolean turned = n > 2 && directionFrom(row.get(n - 3), row.get(n - 2)) != before;
            return direction >= 0 && team.may(field, next, before, direction, turned);
        }

        static int turnsOf(List<Integer> row) {
            int turns = 0;
            for (int i = 2; i < row.size(); i++) {
                int before = directionFrom(row.get(i - 2), row.get(i - 1));
                if (directionFrom(row.get(i - 1), row.get(i)) != before) {
                    turns++;
                }
            }
            return turns;
        }

        int best() {
            int best = -1;
            for (int i = 0; i < whole.size(); i++) {
                if (best < 0 || turns.get(i) < turns.get(best)
                    || turns.get(i).equals(turns.get(best)) && Arrays.compare(whole.get(i), whole.get(best)) < 0) {
                    best = i;
                }
            }
            return best;
        }
    }

    private static final class Line {
        final int[] row;
        final int[] days;
        int yield = 0;

        Line(int[] row, int[] costs, List<Field> fields) {
            this.row = row;
            days = new int[row.length];
            int hour = 0;
            for (int field : row) {
                while (hour / 8 < fields.get(field).wet) {
                    hour++;
                }
                hour += costs[field];
                days[field] = (hour - 1) / 8;
                yield += Math.max(0, fields.get(field).worth - 3 * days[field]);
            }
        }

        int last() {
            return days[row[row.length - 1]];
        }
    }

    private static final class Fault extends RuntimeException {
        private static final long serialVersionUID = 1L;
        final int place;

        Fault(int place) {
            super(null, null, false, false);
            this.place = place;
        }
    }

    private static final class Model {
        List<Field> fields = new ArrayList<>();
        List<Team> teams = new ArrayList<>();
        List<Field> keptFields;
        List<Team> keptTeams;
        String tape = "";
        final Object[] sheets = new Object[4];
        final int[] told = new int[7];

        long answer(LongSupplier act) {
            try {
                return act.getAsLong();
            } catch (Finding f) {
                told[f.which]++;
                return -1000000001L - f.which;
            }
        }

        Field fieldOf(int field) {
            ask(within(field, 0, fields.size() - 1), Finding.BEYOND);
            return fields.get(field);
        }

        Team teamAt(int team) {
            ask(within(team, 0, teams.size() - 1), Finding.BEYOND);
            return teams.get(team);
        }

        long field() {
            ask(fields.size() < 6, Finding.FULL);
            fields.add(new Field());
            return fields.size() - 1;
        }

        long of(int field, int what) {
            Field f = fieldOf(field);
            ask(within(what, 0, 7), Finding.BEYOND);
            int[] all = {setBits(f.stones), setBits(f.trees), f.in, f.out, f.wet, f.worth, setBits(f.earth()), f.colours()};
            return all[what];
        }

        long set(int field, int what, int v) {
            ask(within(what, 0, 5), Finding.BEYOND);
            long was = of(field, what);
            Field f = fieldOf(field);
            switch (what) {
                case 0 -> {
                    ask(within(v, 0, 65535), Finding.BEYOND);
                    f.stones = members(v);
                }
                case 1 -> {
                    ask(within(v, 0, 65535), Finding.BEYOND);
                    f.trees = members(v);
                }
                case 2 -> {
                    ask(within(v, -1, 15), Finding.BEYOND);
                    f.in = v;
                }
                case 3 -> {
                    ask(within(v, -1, 15), Finding.BEYOND);
                    f.out = v;
                }
                case 4 -> {
                    ask(within(v, 0, 99), Finding.BEYOND);
                    f.wet = v;
                }
                default -> {
                    ask(within(v, 0, 999), Finding.BEYOND);
                    f.worth = v;
                }
            }
            return was;
        }

        long join(int from, int to, boolean is) {
            Field f = fieldOf(from);
            fieldOf(to);
            ask(from != to, Finding.BEYOND);
            return (is ? f.joins.add(to) : f.joins.remove(to)) ? 1 : 0;
        }

        long joined(int field) {
            return setBits(fieldOf(field).joins);
        }

        long team(int kind, int pace) {
            ask(within(kind, 0, 5) && within(pace, 1, 9), Finding.BEYOND);
            ask(teams.size() < 6, Finding.FULL);
            teams.add(Team.of(kind, pace));
            return teams.size() - 1;
        }

        long teamOf(int team, int what) {
            Team t = teamAt(team);
            ask(within(what, 0, 2), Finding.BEYOND);
            return what == 0 ? t.kind() : what == 1 ? t.pace : t.dear();
        }

        long pace(int team, int v) {
            Team t = teamAt(team);
            ask(within(v, 1, 9), Finding.BEYOND);
            int was = t.pace;
            t.pace = v;
            return was;
        }

        long as(int team, int kind) {
            Team t = teamAt(team);
            ask(within(kind, 0, 5), Finding.BEYOND);
            ask(t.is(kind), Finding.KIND);
            return t.dear();
        }

        long may(int team, int field, int cell, int before, int direction, boolean turned) {
            Team t = teamAt(team);
            Field f = fieldOf(field);
            ask(within(cell, 0, 15) && within(before, -1, 3) && within(direction, 0, 3), Finding.BEYOND);
            return t.may(f, cell, before, direction, turned) ? 1 : 0;
        }

        /** The cost of BEST, or -1. */
        int cost(Team t, Field f) {
            Listed listed = Listed.of(t, f);
            int best = listed.best();
            return best < 0 ? -1 : t.pace * f.earth().size() + t.dear() * listed.turns.get(best);
        }

        long best(int team, int field, int what) {
            Team t = teamAt(team);
            Field f = fieldOf(field);
            ask(within(what, -2, 15), Finding.BEYOND);
            Listed listed = Listed.of(t, f);
            int best = listed.best();
            ask(best >= 0 && what < f.earth().size(), Finding.NONE);
            return what == -1 ? cost(t, f) : what == -2 ? listed.turns.get(best) : listed.whole.get(best)[what];
        }

        long many(int team, int field) {
            return Listed.of(teamAt(team), fieldOf(field)).whole.size();
        }

        long barred(int field) {
            Field f = fieldOf(field);
            int colours = f.colours();
            if (f.earth().isEmpty()) {
                return 0;
            }
            if (Math.abs(colours) > 1) {
                return 1;
            }
            boolean bars = false;
            if (colours == 0) {
                bars = f.in >= 0 && f.out >= 0 && odd(f.in) == odd(f.out);
            } else {
                for (int gate : new int[] {f.in, f.out}) {
                    bars |= gate >= 0 && odd(gate) != (colours == -1);
                }
            }
            return bars ? 2 : 0;
        }

        long missed(int team, int field) {
            Team t = teamAt(team);
            Field f = fieldOf(field);
            boolean gates = (f.in < 0 || f.earth().contains(f.in)) && (f.out < 0 || f.earth().contains(f.out));
            int longest = gates ? Listed.of(t, f).longest : 0;
            ask(longest > 0, Finding.NONE);
            return f.earth().size() - longest;
        }

        long least(int[] costs) {
            int least = -1;
            for (int i = 0; i < costs.length; i++) {
                if (costs[i] >= 0 && (least < 0 || costs[i] < costs[least])) {
                    least = i;
                }
            }
            ask(least >= 0, Finding.NONE);
            return least;
        }

        long stone(int team, int field) {
            Team t = teamAt(team);
            Field f = fieldOf(field);
            int[] costs = new int[16];
            for (int cell = 0; cell < 16; cell++) {
                Field without = f.twin();
                costs[cell] = without.stones.remove(cell) ? cost(t, without) : -1;
            }
            return least(costs);
        }

        long gate(int team, int field, int what) {
            Team t = teamAt(team);
            Field f = fieldOf(field);
            ask(what == 2 || what == 3, Finding.BEYOND);
            int[] costs = new int[16];
            for (int cell = 0; cell < 16; cell++) {
                Field other = f.twin();
                if (what == 2) {
                    other.in = cell;
                } else {
                    other.out = cell;
                }
                costs[cell] = cost(t, other);
            }
            return least(costs);
        }

        long whose(int field) {
            Field f = fieldOf(field);
            return least(teams.stream().mapToInt(t -> cost(t, f)).toArray());
        }

        List<Line> allLines(Team t, List<Field> fields) {
            int[] costs = fields.stream().mapToInt(f -> cost(t, f)).toArray();
            List<Line> lines = new ArrayList<>();
            if (fields.isEmpty() || Arrays.stream(costs).anyMatch(c -> c < 0)) {
                return lines;
            }
            List<int[]> rows = new ArrayList<>();
            rows.add(new int[0]);
            for (int i = 0; i < fields.size(); i++) {
                List<int[]> longer = new ArrayList<>();
                for (int[] row : rows) {
                    for (int next = 0; next < fields.size(); next++) {
                        int field = next;
                        boolean isNew = Arrays.stream(row).noneMatch(was -> was == field);
                        if (isNew && (i == 0 || fields.get(row[i - 1]).joins.contains(next))) {
                            int[] more = Arrays.copyOf(row, i + 1);
                            more[i] = next;
                            longer.add(more);
                        }
                    }
                }
                rows = longer;
            }
            for (int[] row : rows) {
                lines.add(new Line(row, costs, fields));
            }
            return lines;
        }

        Line lateOf(List<Line> lines) {
            Line late = null;
            for (Line line : lines) {
                if (late == null || line.last() < late.last()
                    || line.last() == late.last() && Arrays.compare(line.row, late.row) < 0) {
                    late = line;
                }
            }
            ask(late != null, Finding.NONE);
            return late;
        }

        long lines(int team) {
            return allLines(teamAt(team), fields).size();
        }

        long late(int team, int what) {
            Team t = teamAt(team);
            ask(within(what, -2, 5), Finding.BEYOND);
            Line late = lateOf(allLines(t, fields));
            ask(what < late.row.length, Finding.NONE);
            return what == -1 ? late.last() : what == -2 ? late.yield : late.row[what];
        }

        long done(int team, int field) {
            Team t = teamAt(team);
            fieldOf(field);
            return lateOf(allLines(t, fields)).days[field];
        }

        long yields(int team) {
            List<Line> lines = allLines(teamAt(team), fields);
            ask(!lines.isEmpty(), Finding.NONE);
            return lines.stream().mapToInt(line -> line.yield).max().getAsInt();
        }

        long row(int team, int digits, int n) {
            Team t = teamAt(team);
            ask(within(n, 0, 6) && within(digits, 0, Math.round(Math.pow(6, n)) - 1), Finding.BEYOND);
            String told = n == 0 ? "" : "000000" + Integer.toString(digits, 6);
            told = told.substring(told.length() - n);
            for (char c : told.toCharArray()) {
                fieldOf(c - '0');
            }
            for (int i = 0; i < n; i++) {
                int field = told.charAt(i) - '0';
                boolean joined = i == 0 || fields.get(told.charAt(i - 1) - '0').joins.contains(field);
                boolean there = told.indexOf(told.charAt(i)) < i;
                if (!joined || there || cost(t, fields.get(field)) < 0) {
                    return i;
                }
            }
            return n;
        }

        long lacks(int team) {
            Team t = teamAt(team);
            int[] days = new int[60];
            Arrays.fill(days, -1);
            for (int from = 0; from < fields.size(); from++) {
                for (int to = 0; to < fields.size(); to++) {
                    if (from != to && !fields.get(from).joins.contains(to)) {
                        List<Field> other = new ArrayList<>(fields);
                        other.set(from, fields.get(from).twin());
                        other.get(from).joins.add(to);
                        List<Line> lines = allLines(t, other);
                        days[10 * from + to] = lines.isEmpty() ? -1 : lateOf(lines).last();
                    }
                }
            }
            return least(days);
        }

        long feed(int bytes, int n) {
            ask(within(n, 1, 4), Finding.BEYOND);
            ask(tape.length() + n <= 120, Finding.FULL);
            StringBuilder more = new StringBuilder();
            for (int i = 0; i < n; i++) {
                more.insert(0, (char) (bytes & 255));
                bytes >>= 8;
            }
            tape += more;
            return tape.length();
        }

        long wipe() {
            int had = tape.length();
            tape = "";
            return had;
        }

        private static final Pattern TOKEN = Pattern.compile(" *([a-z]+|[0-9]+|;|$|[^ ])", Pattern.DOTALL);
        private List<String> tokens;
        private List<Integer> places;
        private int at;

        long parish() {
            List<Field> fieldsWere = twins(fields);
            List<Team> teamsWere = twinTeams(teams);
            Matcher m = TOKEN.matcher(tape);
            tokens = new ArrayList<>();
            places = new ArrayList<>();
            while (m.find()) {
                tokens.add(m.group(1));
                places.add(m.start(1));
            }
            at = 0;
            long items = 0;
            try {
                do {
                    item();
                    items++;
                } while (takes(";"));
                must(tokens.get(at).isEmpty());
            } catch (Fault f) {
                fields = fieldsWere;
                teams = teamsWere;
                items = -1 - f.place;
            }
            tape = "";
            return items;
        }

        private void must(boolean can) {
            if (!can) {
                throw new Fault(places.get(at));
            }
        }

        private boolean takes(String token) {
            boolean is = tokens.get(at).equals(token);
            at += is ? 1 : 0;
            return is;
        }

        private boolean numberAhead() {
            return tokens.get(at).matches("[0-9]+");
        }

        private int number(int least, int most) {
            must(numberAhead());
            String digits = tokens.get(at).replaceFirst("^0+", "");
            must(digits.length() <= 3);
            int v = digits.isEmpty() ? 0 : Integer.parseInt(digits);
            must(within(v, least, most));
            at++;
            return v;
        }

        private Set<Integer> cells() {
            TreeSet<Integer> cells = new TreeSet<>();
            do {
                cells.add(number(cells.isEmpty() ? 0 : cells.last() + 1, 15));
            } while (numberAhead());
            return cells;
        }

        private void item() {
            String word = tokens.get(at);
            int kind = List.of("team", "left", "right", "wide", "shy", "slow").indexOf(word);
            if (word.equals("field")) {
                must(fields.size() < 6);
                at++;
                Field f = new Field();
                f.stones = takes("stones") ? cells() : f.stones;
                f.trees = takes("trees") ? cells() : f.trees;
                f.in = takes("in") ? number(0, 15) : -1;
                f.out = takes("out") ? number(0, 15) : -1;
                f.wet = takes("wet") ? number(0, 99) : 0;
                fields.add(f);
            } else if (word.equals("join")) {
                at++;
                int from = number(0, fields.size() - 1);
                must(numberAhead());
                int place = at;
                int to = number(0, fields.size() - 1);
                if (from == to) {
                    at = place;
                    must(false);
                }
                fields.get(from).joins.add(to);
            } else {
                must(kind >= 0 && teams.size() < 6);
                at++;
                teams.add(Team.of(kind, takes("pace") ? number(1, 9) : 1));
            }
        }

        int sizeOf(Object sheet) {
            return java.lang.reflect.Array.getLength(sheet);
        }

        Object sheetAt(int s) {
            ask(within(s, 0, 3), Finding.BEYOND);
            ask(sheets[s] != null, Finding.MISSING);
            return sheets[s];
        }

        long numberOf(Object sheet, int i) {
            return ((Number) java.lang.reflect.Array.get(sheet, i)).longValue();
        }

        void put(Object sheet, int i, long v) {
            if (sheet instanceof byte[] b) {
                b[i] = (byte) v;
            } else if (sheet instanceof short[] s) {
                s[i] = (short) v;
            } else if (sheet instanceof long[] l) {
                l[i] = v;
            }
        }

        long sheet(int s, int bits, int n) {
            ask(within(s, 0, 3) && List.of(0, 8, 16, 64).contains(bits), Finding.BEYOND);
            ask(n >= 0, Finding.SIZE);
            ask(n <= 40, Finding.BEYOND);
            sheets[s] = bits == 0 ? null : bits == 8 ? new byte[n] : bits == 16 ? new short[n] : new long[n];
            return bits == 0 ? 0 : n;
        }

        long write(int s, int i, long v) {
            Object sheet = sheetAt(s);
            ask(within(i, 0, sizeOf(sheet) - 1), Finding.BEYOND);
            long was = numberOf(sheet, i);
            put(sheet, i, v);
            return was;
        }

        long copy(int s, int from, int t, int to, int n) {
            ask(within(s, 0, 3) && within(t, 0, 3), Finding.BEYOND);
            Object a = sheetAt(s);
            Object b = sheetAt(t);
            ask(a.getClass() == b.getClass(), Finding.KIND);
            ask(n >= 0 && from >= 0 && to >= 0, Finding.BEYOND);
            ask((long) from + n <= sizeOf(a) && (long) to + n <= sizeOf(b), Finding.BEYOND);
            long[] moved = new long[n];
            for (int i = 0; i < n; i++) {
                moved[i] = numberOf(a, from + i);
            }
            for (int i = 0; i < n; i++) {
                put(b, to + i, moved[i]);
            }
            return n;
        }

        long lays(int s, int field) {
            Object sheet = sheetAt(s);
            Field f = fieldOf(field);
            int came = 0;
            for (int cell = 0; cell < Math.min(16, sizeOf(sheet)); cell++) {
                long v = numberOf(sheet, cell);
                if (v == 0 || v == 1 || v == 2) {
                    f.stones.remove(cell);
                    f.trees.remove(cell);
                    if (v > 0) {
                        (v == 1 ? f.stones : f.trees).add(cell);
                    }
                    came++;
                }
            }
            return came;
        }

        long draw(int s, int team, int field) {
            Object sheet = sheetAt(s);
            Listed listed = Listed.of(teamAt(team), fieldOf(field));
            ask(listed.best() >= 0, Finding.NONE);
            int[] best = listed.whole.get(listed.best());
            int n = Math.min(best.length, sizeOf(sheet));
            for (int i = 0; i < n; i++) {
                put(sheet, i, best[i]);
            }
            return n;
        }

        long read(int s, int team, int field) {
            Object sheet = sheetAt(s);
            Team t = teamAt(team);
            Field f = fieldOf(field);
            List<Integer> row = new ArrayList<>();
            for (int i = 0; i < sizeOf(sheet); i++) {
                long v = numberOf(sheet, i);
                boolean can = within(v, 0, 15) && f.earth().contains((int) v) && !row.contains((int) v);
                can = can && (i > 0 ? Listed.goesOn(t, f, row, (int) v) : f.in < 0 || v == f.in);
                if (!can) {
                    return 1 + i;
                }
                row.add((int) v);
            }
            for (int[] whole : Listed.of(t, f).whole) {
                if (Arrays.equals(whole, row.stream().mapToInt(i -> i).toArray())) {
                    return 0;
                }
            }
            return 100;
        }

        static List<Field> twins(List<Field> fields) {
            List<Field> twins = new ArrayList<>();
            fields.forEach(f -> twins.add(f.twin()));
            return twins;
        }

        static List<Team> twinTeams(List<Team> teams) {
            List<Team> twins = new ArrayList<>();
            teams.forEach(t -> twins.add(Team.of(t.kind(), t.pace)));
            return twins;
        }

        long image() {
            keptFields = twins(fields);
            keptTeams = twinTeams(teams);
            return 1;
        }

        long undo() {
            ask(keptFields != null, Finding.NONE);
            fields = twins(keptFields);
            teams = twinTeams(keptTeams);
            return fields.size();
        }

        long tear() {
            boolean was = keptFields != null;
            keptFields = null;
            return was ? 1 : 0;
        }

        long count(int what) {
            ask(within(what, 0, 4), Finding.BEYOND);
            int earth = fields.stream().mapToInt(f -> f.earth().size()).sum();
            int joins = fields.stream().mapToInt(f -> f.joins.size()).sum();
            return new int[] {fields.size(), teams.size(), earth, joins, tape.length()}[what];
        }

        long status(int which) {
            ask(within(which, -1, 6), Finding.BEYOND);
            return which < 0 ? Arrays.stream(told).sum() : told[which];
        }
    }

    /** One run of calls, on the class and on the model. */
    private static final class Run {
        private static final String[] WORDS = {
            "field", "stones", "trees", "in", "out", "wet", "join", "pace", "team", "left", "right", "wide", "shy", "slow",
            ";", ";", "0", "1", "2", "3", "5", "9", "10", "15", "16", "99", "100", "1000", "x", "#"};
        private final int seed;
        private final Random random;
        private final boolean tame;
        private final OneFurrow real = new OneFurrow();
        private final Model model = new Model();
        private final Set<String> shown = new HashSet<>();
        private int wrong = 0;

        Run(int seed) {
            this.seed = seed;
            random = new Random(seed);
            tame = seed % 2 == 0;
        }

        private void due(String call, LongSupplier got, LongSupplier want) {
            long wanted = model.answer(want);
            long answered = got.getAsLong();
            if (wanted != answered && shown.size() < 5) {
                wrong = 1;
                shown.add(call);
                System.out.println("seed " + seed + ": " + call + " answered " + answered + ", due is " + wanted);
            }
        }

        private int any(int least, int most) {
            int dice = random.nextInt(60);
            if (dice == 0) {
                return least - 1;
            }
            if (dice == 1) {
                return most + 1;
            }
            if (dice == 2) {
                int[] far = {Integer.MIN_VALUE, Integer.MAX_VALUE, -2, 1 << 16, 1 << 20, -1000, 32, 64};
                return far[random.nextInt(far.length)];
            }
            return least + random.nextInt(most - least + 1);
        }

        private int anyField() {
            return any(0, Math.max(0, model.fields.size() - 1));
        }

        private int anyTeam() {
            return any(0, Math.max(0, model.teams.size() - 1));
        }

        /** Stones around a furrow, so that there is one to be found. */
        private int aroundFurrow() {
            int cell = random.nextInt(16);
            int furrow = 1 << cell;
            for (int i = random.nextInt(40); i > 0; i--) {
                int next = random.nextInt(16);
                if (directionFrom(cell, next) >= 0 && (furrow & 1 << next) == 0) {
                    furrow |= 1 << next;
                    cell = next;
                }
            }
            return 65535 & ~furrow;
        }

        /** Sets of cells are mostly few; in a tame run nearly all fields can be ploughed. */
        private int anyStones() {
            return tame && random.nextInt(20) > 0 ? aroundFurrow() : fewCells();
        }

        private int anyTrees() {
            return tame && random.nextInt(20) > 0 ? 0 : fewCells();
        }

        private int anyGate() {
            return random.nextInt(tame ? 12 : 2) > 0 ? -1 : any(0, 15);
        }

        private int fewCells() {
            int set = 0;
            for (int i = random.nextInt(5); i > 0; i--) {
                set |= 1 << random.nextInt(16);
            }
            int dice = random.nextInt(12);
            return dice == 0 ? random.nextInt(65536) : dice == 1 ? 65535 & ~set : dice == 2 ? any(0, 65535) : set;
        }

        int go() {
            begin();
            for (int i = 0; i < CALLS && wrong == 0; i++) {
                int dice = random.nextInt(100);
                if (dice < 22) {
                    changeField();
                } else if (dice < 34) {
                    teams();
                } else if (dice < 58) {
                    furrows();
                } else if (dice < 74) {
                    parishes();
                } else if (dice < (tame ? 75 : 80)) {
                    texts();
                } else if (dice < 93) {
                    sheets();
                } else {
                    images();
                }
            }
            return wrong;
        }

        private void begin() {
            int fields = random.nextInt(7);
            for (int i = 0; i < fields; i++) {
                due("field()", () -> real.field(), () -> model.field());
                int field = i;
                int stones = anyStones();
                due("set(" + field + ", 0, " + stones + ")", () -> real.set(field, 0, stones), () -> model.set(field, 0, stones));
            }
            for (int i = random.nextInt(7); i > 0; i--) {
                int kind = random.nextInt(6);
                int pace = 1 + random.nextInt(9);
                due("team(" + kind + ", " + pace + ")", () -> real.team(kind, pace), () -> model.team(kind, pace));
            }
            int joins = random.nextInt(4);
            for (int i = 0; i < 36; i++) {
                if (random.nextInt(4) < joins) {
                    int from = i / 6;
                    int to = i % 6;
                    due("join(" + from + ", " + to + ")", () -> real.join(from, to, true), () -> model.join(from, to, true));
                }
            }
        }

        private void changeField() {
            int field = anyField();
            int other = anyField();
            boolean is = random.nextInt(3) > 0;
            switch (random.nextInt(8)) {
                case 0 -> due("field()", () -> real.field(), () -> model.field());
                case 1 -> {
                    int what = any(0, 7);
                    due("of(" + field + ", " + what + ")", () -> real.of(field, what), () -> model.of(field, what));
                }
                case 2, 3 -> due("join(" + field + ", " + other + ", " + is + ")",
                    () -> real.join(field, other, is), () -> model.join(field, other, is));
                case 4 -> due("joined(" + field + ")", () -> real.joined(field), () -> model.joined(field));
                default -> {
                    int what = any(0, 5);
                    int v = what == 0 ? anyStones() : what == 1 ? anyTrees() : what < 4 ? anyGate()
                        : what == 4 ? any(0, 99) / (1 + random.nextInt(9)) : any(0, 999);
                    due("set(" + field + ", " + what + ", " + v + ")",
                        () -> real.set(field, what, v), () -> model.set(field, what, v));
                }
            }
        }

        private void teams() {
            int team = anyTeam();
            int kind = any(0, 5);
            switch (random.nextInt(6)) {
                case 0 -> {
                    int pace = any(1, 9);
                    due("team(" + kind + ", " + pace + ")", () -> real.team(kind, pace), () -> model.team(kind, pace));
                }
                case 1 -> {
                    int what = any(0, 2);
                    due("teamOf(" + team + ", " + what + ")", () -> real.teamOf(team, what), () -> model.teamOf(team, what));
                }
                case 2 -> {
                    int v = any(1, 9);
                    due("pace(" + team + ", " + v + ")", () -> real.pace(team, v), () -> model.pace(team, v));
                }
                case 3 -> due("as(" + team + ", " + kind + ")", () -> real.as(team, kind), () -> model.as(team, kind));
                default -> {
                    int field = anyField();
                    int cell = any(0, 15);
                    int before = any(-1, 3);
                    int direction = any(0, 3);
                    boolean turned = random.nextBoolean();
                    due("may(" + team + ", " + field + ", " + cell + ", " + before + ", " + direction + ", " + turned + ")",
                        () -> real.may(team, field, cell, before, direction, turned),
                        () -> model.may(team, field, cell, before, direction, turned));
                }
            }
        }

        private void furrows() {
            int team = anyTeam();
            int field = anyField();
            String both = team + ", " + field;
            switch (random.nextInt(8)) {
                case 0, 1 -> {
                    int what = any(-2, 15);
                    due("best(" + both + ", " + what + ")", () -> real.best(team, field, what), () -> model.best(team, field, what));
                }
                case 2 -> due("many(" + both + ")", () -> real.many(team, field), () -> model.many(team, field));
                case 3 -> due("barred(" + field + ")", () -> real.barred(field), () -> model.barred(field));
                case 4 -> due("missed(" + both + ")", () -> real.missed(team, field), () -> model.missed(team, field));
                case 5 -> due("stone(" + both + ")", () -> real.stone(team, field), () -> model.stone(team, field));
                case 6 -> {
                    int what = any(2, 3);
                    due("gate(" + both + ", " + what + ")", () -> real.gate(team, field, what), () -> model.gate(team, field, what));
                }
                default -> due("whose(" + field + ")", () -> real.whose(field), () -> model.whose(field));
            }
        }

        private void parishes() {
            int team = anyTeam();
            switch (random.nextInt(6)) {
                case 0 -> due("lines(" + team + ")", () -> real.lines(team), () -> model.lines(team));
                case 1 -> {
                    int what = any(-2, 5);
                    due("late(" + team + ", " + what + ")", () -> real.late(team, what), () -> model.late(team, what));
                }
                case 2 -> {
                    int field = anyField();
                    due("done(" + team + ", " + field + ")", () -> real.done(team, field), () -> model.done(team, field));
                }
                case 3 -> due("yields(" + team + ")", () -> real.yields(team), () -> model.yields(team));
                case 4 -> {
                    int n = any(0, 6);
                    int digits = any(0, (int) Math.pow(Math.max(1, model.fields.size()), Math.max(0, Math.min(6, n))) - 1);
                    int told = random.nextInt(3) == 0 ? digits : anyRow(n);
                    due("row(" + team + ", " + told + ", " + n + ")", () -> real.row(team, told, n), () -> model.row(team, told, n));
                }
                default -> due("lacks(" + team + ")", () -> real.lacks(team), () -> model.lacks(team));
            }
        }

        /** Digits that go on by joins, if they can, so that long rows are told, too. */
        private int anyRow(int n) {
            int digits = 0;
            int last = -1;
            for (int i = 0; i < Math.min(6, n) && !model.fields.isEmpty(); i++) {
                List<Integer> next = last < 0 ? List.of() : new ArrayList<>(model.fields.get(last).joins);
                last = next.isEmpty() ? random.nextInt(model.fields.size()) : next.get(random.nextInt(next.size()));
                digits = 6 * digits + last;
            }
            return digits;
        }

        private void texts() {
            switch (random.nextInt(4)) {
                case 0 -> {
                    int bytes = random.nextInt();
                    int n = any(1, 4);
                    due("feed(" + bytes + ", " + n + ")", () -> real.feed(bytes, n), () -> model.feed(bytes, n));
                }
                case 1 -> due("wipe()", () -> real.wipe(), () -> model.wipe());
                default -> {
                    if (random.nextInt(4) > 0) {
                        due("wipe()", () -> real.wipe(), () -> model.wipe());
                    }
                    String text = anyText();
                    for (char c : text.toCharArray()) {
                        due("feed", () -> real.feed(c, 1), () -> model.feed(c, 1));
                    }
                    due("parish() of '" + text + "'", () -> real.parish(), () -> model.parish());
                }
            }
        }

        private String anyText() {
            StringBuilder text = new StringBuilder();
            int items = 1 + random.nextInt(4);
            for (int i = 0; i < items; i++) {
                text.append(i == 0 ? "" : random.nextBoolean() ? ";" : " ; ").append(anyItem());
            }
            int spoil = random.nextInt(8);
            int at = random.nextInt(text.length());
            if (spoil == 0) {
                text.deleteCharAt(at);
            } else if (spoil == 1) {
                text.insert(at, " " + WORDS[random.nextInt(WORDS.length)] + " ");
            } else if (spoil == 2) {
                text.setCharAt(at, (char) random.nextInt(256));
            } else if (spoil == 3) {
                text.setLength(at);
            }
            return text.toString();
        }

        private String anyItem() {
            int fields = model.fields.size();
            int dice = random.nextInt(4);
            if (dice == 0 && fields > 1) {
                return "join " + any(0, fields - 1) + " " + any(0, fields - 1);
            }
            if (dice == 1) {
                return WORDS[8 + random.nextInt(6)] + (random.nextBoolean() ? " pace " + any(1, 9) : "");
            }
            return "field" + cellsText(" stones") + cellsText(" trees") + markText(" in ", 15) + markText("  out", 15)
                + markText(" wet ", 99);
        }

        private String cellsText(String word) {
            StringBuilder text = new StringBuilder();
            for (int cell = random.nextInt(8); cell < 16 && random.nextInt(3) > 0; cell += 1 + random.nextInt(6)) {
                text.append(text.length() == 0 ? word : "").append(' ').append(cell);
            }
            return text.toString();
        }

        private String markText(String word, int most) {
            return random.nextInt(3) == 0 ? word + any(0, most) : "";
        }

        private void sheets() {
            int s = any(0, 3);
            int team = anyTeam();
            int field = anyField();
            switch (random.nextInt(8)) {
                case 0 -> {
                    int bits = new int[] {8, 16, 64, 8, 16, 64, 0, 32}[random.nextInt(8)];
                    int n = random.nextInt(3) > 0 ? any(0, 20) : any(0, 40);
                    due("sheet(" + s + ", " + bits + ", " + n + ")", () -> real.sheet(s, bits, n), () -> model.sheet(s, bits, n));
                }
                case 1, 2 -> {
                    int i = any(0, random.nextBoolean() ? 5 : 39);
                    long v = random.nextInt(4) == 0 ? random.nextLong() : any(0, 15);
                    due("write(" + s + ", " + i + ", " + v + ")", () -> real.write(s, i, v), () -> model.write(s, i, v));
                }
                case 3 -> {
                    int t = any(0, 3);
                    int from = any(0, 10);
                    int to = any(0, 10);
                    int n = any(0, 10);
                    due("copy(" + s + ", " + from + ", " + t + ", " + to + ", " + n + ")",
                        () -> real.copy(s, from, t, to, n), () -> model.copy(s, from, t, to, n));
                }
                case 4 -> due("lays(" + s + ", " + field + ")", () -> real.lays(s, field), () -> model.lays(s, field));
                case 5 -> due("draw(" + s + ", " + team + ", " + field + ")",
                    () -> real.draw(s, team, field), () -> model.draw(s, team, field));
                case 6 -> due("read(" + s + ", " + team + ", " + field + ")",
                    () -> real.read(s, team, field), () -> model.read(s, team, field));
                default -> drawAndRead(s, team, field);
            }
        }

        /** A sheet just as long as the furrow, perhaps read by another team, perhaps with a cell changed. */
        private void drawAndRead(int s, int team, int field) {
            int n = field >= 0 && field < model.fields.size() ? model.fields.get(field).earth().size() : 3;
            int other = random.nextBoolean() ? team : anyTeam();
            due("sheet(" + s + ", 8, " + n + ")", () -> real.sheet(s, 8, n), () -> model.sheet(s, 8, n));
            due("draw(" + s + ", " + team + ", " + field + ")",
                () -> real.draw(s, team, field), () -> model.draw(s, team, field));
            if (random.nextInt(3) == 0) {
                int i = any(0, 15);
                int cell = any(0, 15);
                due("write(" + s + ", " + i + ", " + cell + ")", () -> real.write(s, i, cell), () -> model.write(s, i, cell));
            }
            due("read(" + s + ", " + other + ", " + field + ")",
                () -> real.read(s, other, field), () -> model.read(s, other, field));
        }

        private void images() {
            switch (random.nextInt(6)) {
                case 0 -> due("image()", () -> real.image(), () -> model.image());
                case 1 -> due("undo()", () -> real.undo(), () -> model.undo());
                case 2 -> due("tear()", () -> real.tear(), () -> model.tear());
                case 3, 4 -> {
                    int what = any(0, 4);
                    due("count(" + what + ")", () -> real.count(what), () -> model.count(what));
                }
                default -> {
                    int which = any(-1, 6);
                    due("status(" + which + ")", () -> real.status(which), () -> model.status(which));
                }
            }
        }
    }
}
