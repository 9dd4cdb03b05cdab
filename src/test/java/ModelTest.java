import java.time.DateTimeException;
import java.time.LocalDate;
import java.util.ArrayList;
import java.util.HashSet;
import java.util.List;
import java.util.Random;
import java.util.regex.Pattern;

/**
 * Compares every call with a second reading of the document that shares no code with the class:
 * regular expressions, LocalDate, and cells written from their values. The texts are made from a
 * fixed seed, so each run is the same.
 */
public final class ModelTest {
    private static final int NONE = -1;
    private static final int CALL_LIMIT = 512;
    private static final String MARKS = ",;\t|";
    private static final String[] QUOTES = {"", "\"", "'"};
    private static final String[] CODES = {null, "", "-", "NA", "9999"};
    private static final String[][] FLAGS = {
        {"0", "1"}, {"n", "y"}, {"N", "Y"}, {"no", "yes"}, {"false", "true"}, {"F", "T"}};
    private static final Pattern[] NUMBERS = numberPatterns();

    private static int wrong = 0;
    private static long asked = 0;

    public static void main(String[] args) {
        Random random = new Random(20261117L);
        for (int i = 0; i < 260; i++) {
            String text = Texts.table(random);
            compareAll(text, random);
        }
        for (int i = 0; i < 260; i++) {
            compareAll(Texts.soup(random), random);
        }
        for (int i = 0; i < 40; i++) {
            compareAll(Texts.full(random), random);
        }
        System.out.println(asked + " answers compared, " + wrong + " not as due");
        if (wrong != 0) {
            System.exit(1);
        }
    }

    private static void due(String text, int make, String call, long got, long want) {
        asked++;
        if (got != want) {
            wrong++;
            if (wrong <= 20) {
                System.out.println("make " + make + " of " + shown(text) + ": " + call + " answered " + got
                    + ", due is " + want);
            }
        }
    }

    private static String shown(String text) {
        return "\"" + text.replace("\n", "\\n").replace("\t", "\\t") + "\"";
    }

    private static void compareAll(String text, Random random) {
        Session s = new Session(text);
        int best = NONE;
        int least = 0;
        for (int make = 0; make < 24; make++) {
            Reading r = new Reading(text, make);
            due(text, make, "reads", s.next().reads(make), r.fault);
            due(text, make, "faultAt", s.next().faultAt(make), r.faultAt);
            int cost = r.fault == 0 ? r.cost() : NONE;
            due(text, make, "cost", s.next().cost(make), cost);
            if (cost != NONE && (best == NONE || cost < least)) {
                best = make;
                least = cost;
            }
        }
        due(text, NONE, "best", s.next().best(), best);
        int[] makes = {best, random.nextInt(24), random.nextInt(24), random.nextInt(24)};
        for (int make : makes) {
            if (make != NONE) {
                s.use(make);
                Reading r = new Reading(text, make);
                compareRows(text, make, r, s);
                for (int column = -1; column <= r.width(); column++) {
                    compareColumn(text, make, r, s, column);
                    compareParts(text, make, r, s, column, random);
                }
            }
        }
    }

    private static void compareRows(String text, int make, Reading r, Session s) {
        List<Integer> odd = r.oddRows();
        int[] about = {NONE, r.rows.size(), r.width(), odd.size(), make, text.length(), 0, NONE};
        for (int what = -1; what < 7; what++) {
            due(text, make, "about(" + what + ")", s.next().about(what), about[what + 1]);
        }
        for (int k = -1; k <= odd.size(); k++) {
            due(text, make, "odd(" + k + ")", s.next().odd(k), k < 0 || k == odd.size() ? NONE : odd.get(k));
        }
        for (int row = -1; row <= r.rows.size(); row++) {
            boolean there = row >= 0 && row < r.rows.size();
            int cells = there ? r.rows.get(row).size() : NONE;
            due(text, make, "breadth(" + row + ")", s.next().breadth(row), cells);
            for (int cell = -1; cell <= Math.max(cells, 0); cell++) {
                String it = there && cell >= 0 && cell < cells ? r.rows.get(row).get(cell) : null;
                compareCell(text, make, r, s, row, cell, it);
            }
        }
    }

    private static void compareCell(String text, int make, Reading r, Session s, int row, int cell, String it) {
        String place = "(" + row + ", " + cell;
        due(text, make, "size" + place + ")", s.next().size(row, cell), it == null ? NONE : it.length());
        boolean told = it != null && r.isInColumns(row);
        Choice c = told ? r.choice(cell) : null;
        boolean missing = told && it.equals(CODES[c.m]);
        long value = told && !missing ? r.value(it, c.form) : 0;
        due(text, make, "value" + place + ")", s.next().value(row, cell), value);
        String written = !told ? "" : missing ? CODES[c.m] : write(value, c.form, it);
        int size = it == null ? 0 : it.length();
        // Long cells are looked at near both ends: the middle has nothing new.
        for (int k = -1; k <= size; k++) {
            if (k < 16 || k > size - 3) {
                int at = k >= 0 && k < size ? it.charAt(k) : NONE;
                int back = k >= 0 && k < written.length() ? written.charAt(k) : NONE;
                due(text, make, "at" + place + ", " + k + ")", s.next().at(row, cell, k), at);
                due(text, make, "back" + place + ", " + k + ")", s.next().back(row, cell, k), back);
            }
        }
    }

    private static void compareColumn(String text, int make, Reading r, Session s, int column) {
        Choice c = r.choice(column);
        boolean none = c == null;
        due(text, make, "form(" + column + ")", s.next().form(column), none ? NONE : c.form);
        due(text, make, "missing(" + column + ")", s.next().missing(column), none ? NONE : c.m);
        due(text, make, "lacks(" + column + ")", s.next().lacks(column), none ? NONE : r.lacks(column, c.m));
        due(text, make, "key(" + column + ")", s.next().key(column), none ? NONE : r.key(column, c.m));
        int fits = 0;
        int doubt = NONE;
        for (int form = -1; form <= 32; form++) {
            boolean any = false;
            boolean tied = false;
            for (int m = -1; m <= 5; m++) {
                int cost = r.costOf(column, form, m);
                String call = "costOf(" + column + ", " + form + ", " + m + ")";
                due(text, make, call, s.next().costOf(column, form, m), cost);
                any |= cost != NONE;
                tied |= !none && cost == c.cost && form != c.form;
            }
            fits += any ? 1 : 0;
            doubt = tied && doubt == NONE ? form : doubt;
        }
        due(text, make, "fits(" + column + ")", s.next().fits(column), none ? NONE : fits);
        due(text, make, "doubt(" + column + ")", s.next().doubt(column), none ? NONE : doubt);
    }

    private static void compareParts(String text, int make, Reading r, Session s, int column, Random random) {
        for (int i = 0; i < 60; i++) {
            int form = random.nextInt(34) - 1;
            int other = random.nextInt(34) - 1;
            int m = random.nextInt(8) - 1;
            String call = "parts(" + column + ", " + form + ", " + other + ", " + m + ")";
            due(text, make, call, s.next().parts(column, form, other, m), r.parts(column, form, other, m));
        }
    }

    private static Pattern[] numberPatterns() {
        Pattern[] all = new Pattern[32];
        for (int form = 7; form <= 21; form++) {
            String thousands = form == 8 ? "," : form == 9 ? "[.]" : "";
            String tail = "";
            if (form >= 10) {
                int k = (form - 10) % 4;
                thousands = k == 1 ? "," : k == 3 ? "[.]" : "";
                tail = (k < 2 ? "[.]" : ",") + "[0-9]{" + decimals(form) + "}";
            }
            String whole = thousands.isEmpty() ? "[1-9][0-9]*" : "[1-9][0-9]{0,2}(" + thousands + "[0-9]{3})*";
            all[form] = Pattern.compile("-?(0|" + whole + ")" + tail);
        }
        return all;
    }

    private static int decimals(int form) {
        return form < 10 ? 0 : form < 14 ? 1 : form < 18 ? 2 : 3;
    }

    private static long power(int d) {
        return d == 0 ? 1 : 10 * power(d - 1);
    }

    private static String write(long value, int form, String asItIs) {
        if (form >= 1 && form <= 6) {
            return FLAGS[form - 1][(int) value];
        }
        if (form >= 7 && form <= 21) {
            return writeNumber(value, form);
        }
        if (form >= 22 && form <= 30) {
            String[] parts = {String.format("%02d", value % 100), String.format("%02d", value / 100 % 100),
                String.format("%04d", value / 10000)};
            int[][] orders = {{0, 1, 2}, {1, 0, 2}, {2, 1, 0}};
            int[] order = orders[(form - 22) / 3];
            String between = String.valueOf("/-.".charAt((form - 22) % 3));
            return parts[order[0]] + between + parts[order[1]] + between + parts[order[2]];
        }
        return asItIs;
    }

    private static String writeNumber(long value, int form) {
        int d = decimals(form);
        long size = Math.abs(value);
        String whole = Long.toString(size / power(d));
        int k = form < 10 ? new int[] {0, 1, 3}[form - 7] : (form - 10) % 4;
        if (k % 2 == 1) {
            StringBuilder marked = new StringBuilder();
            for (int i = 0; i < whole.length(); i++) {
                if (i > 0 && (whole.length() - i) % 3 == 0) {
                    marked.append(k == 1 ? ',' : '.');
                }
                marked.append(whole.charAt(i));
            }
            whole = marked.toString();
        }
        String tail = d == 0 ? "" : (k < 2 ? "." : ",") + String.format("%0" + d + "d", size % power(d));
        return (value < 0 ? "-" : "") + whole + tail;
    }

    /** The cheapest FORM of a COLUMN. */
    private static final class Choice {
        final int form;
        final int m;
        final int cost;

        Choice(int form, int m, int cost) {
            this.form = form;
            this.m = m;
            this.cost = cost;
        }
    }

    /** The text by a MAKE, read by going down from rows to cells. */
    private static final class Reading {
        final List<List<String>> rows = new ArrayList<>();
        final boolean head;
        final boolean quoted;
        int fault = 0;
        int faultAt = NONE;
        private final Choice[] choices = new Choice[12];
        private final boolean[] chosen = new boolean[12];

        Reading(String text, int make) {
            head = make % 2 == 1;
            String quote = QUOTES[make / 2 % 3];
            quoted = !quote.isEmpty();
            if (text.isEmpty() && head) {
                fail(4, 0);
            }
            int i = 0;
            while (i < text.length() && fault == 0) {
                i = row(text, i, MARKS.charAt(make / 6), quote) + 1;
            }
            if (fault != 0) {
                rows.clear();
            }
        }

        private void fail(int kind, int at) {
            fault = kind;
            faultAt = at;
        }

        private int row(String text, int from, char mark, String quote) {
            if (rows.size() == 80) {
                fail(3, from);
                return from;
            }
            List<String> row = new ArrayList<>();
            rows.add(row);
            int i = from - 1;
            do {
                i = cell(text, i + 1, mark, quote, row);
            } while (fault == 0 && i < text.length() && text.charAt(i) == mark);
            return i;
        }

        private int cell(String text, int from, char mark, String quote, List<String> row) {
            if (row.size() == 12) {
                fail(3, from);
                return from;
            }
            if (quoted && text.startsWith(quote, from)) {
                return quotedCell(text, from, mark, quote, row);
            }
            int end = from;
            while (end < text.length() && text.charAt(end) != mark && text.charAt(end) != '\n') {
                end++;
            }
            row.add(text.substring(from, end));
            return end;
        }

        private int quotedCell(String text, int from, char mark, String quote, List<String> row) {
            int close = text.indexOf(quote, from + 1);
            while (close >= 0 && text.startsWith(quote, close + 1)) {
                close = text.indexOf(quote, close + 2);
            }
            if (close < 0) {
                fail(1, from);
                return from;
            }
            row.add(text.substring(from + 1, close).replace(quote + quote, quote));
            int behind = close + 1;
            if (behind < text.length() && text.charAt(behind) != mark && text.charAt(behind) != '\n') {
                fail(2, behind);
            }
            return behind;
        }

        int width() {
            return rows.isEmpty() ? 0 : rows.get(0).size();
        }

        List<Integer> oddRows() {
            List<Integer> odd = new ArrayList<>();
            for (int row = 1; row < rows.size(); row++) {
                if (rows.get(row).size() != width()) {
                    odd.add(row);
                }
            }
            return odd;
        }

        boolean isInColumns(int row) {
            return row >= (head ? 1 : 0) && row < rows.size() && rows.get(row).size() == width();
        }

        List<String> cells(int column) {
            List<String> cells = new ArrayList<>();
            for (int row = 0; row < rows.size(); row++) {
                if (isInColumns(row) && column >= 0 && column < width()) {
                    cells.add(rows.get(row).get(column));
                }
            }
            return cells;
        }

        List<String> present(int column, int m) {
            List<String> present = cells(column);
            present.removeIf(cell -> cell.equals(CODES[m]));
            return present;
        }

        int lacks(int column, int m) {
            return cells(column).size() - present(column, m).size();
        }

        int key(int column, int m) {
            List<String> cells = cells(column);
            return lacks(column, m) == 0 && new HashSet<>(cells).size() == cells.size() ? 1 : 0;
        }

        static boolean tells(int form, String cell, String first) {
            if (form == 0) {
                return true;
            }
            if (form <= 6) {
                return cell.equals(FLAGS[form - 1][0]) || cell.equals(FLAGS[form - 1][1]);
            }
            if (form <= 21) {
                String digits = cell.replaceAll("[^0-9]", "");
                return NUMBERS[form].matcher(cell).matches() && digits.length() <= 9
                    && !(cell.startsWith("-") && Long.parseLong(digits) == 0);
            }
            return form <= 30 ? tellsDay(form, cell) : tellsCode(cell, first);
        }

        private static boolean tellsDay(int form, String cell) {
            int order = (form - 22) / 3;
            String between = "[" + "/-.".charAt((form - 22) % 3) + "]";
            String shape = order == 2 ? "[0-9]{4}%[0-9]{2}%[0-9]{2}" : "[0-9]{2}%[0-9]{2}%[0-9]{4}";
            if (!cell.matches(shape.replace("%", between))) {
                return false;
            }
            String[] parts = cell.split(between);
            int year = Integer.parseInt(parts[order == 2 ? 0 : 2]);
            int month = Integer.parseInt(parts[order == 1 ? 0 : 1]);
            int day = Integer.parseInt(parts[order == 2 ? 2 : order == 1 ? 1 : 0]);
            try {
                LocalDate.of(year, month, day);
            } catch (DateTimeException noSuchDay) {
                return false;
            }
            return year >= 1600 && year <= 2999;
        }

        private static boolean tellsCode(String cell, String first) {
            return !first.isEmpty() && first.length() <= 20 && shape(cell).equals(shape(first));
        }

        private static String shape(String cell) {
            StringBuilder shape = new StringBuilder();
            for (char c : cell.toCharArray()) {
                shape.append(c >= '0' && c <= '9' ? "digit " : c >= 'A' && c <= 'Z' ? "capital "
                    : c >= 'a' && c <= 'z' ? "small " : "byte" + (int) c + " ");
            }
            return shape.toString();
        }

        long value(String cell, int form) {
            if (form >= 1 && form <= 6) {
                return cell.equals(FLAGS[form - 1][1]) ? 1 : 0;
            }
            if (form >= 7 && form <= 21) {
                return Long.parseLong(cell.replaceAll("[,.]", ""));
            }
            if (form >= 22 && form <= 30) {
                int order = (form - 22) / 3;
                String[] p = cell.split("[/.-]");
                String[] ymd = order == 2 ? p : order == 1 ? new String[] {p[2], p[0], p[1]}
                    : new String[] {p[2], p[1], p[0]};
                return Long.parseLong(ymd[0] + ymd[1] + ymd[2]);
            }
            return 0;
        }

        int costOf(int column, int form, int m) {
            if (column < 0 || column >= width() || form < 0 || form > 31 || m < 0 || m > 4) {
                return NONE;
            }
            List<String> present = present(column, m);
            if (present.isEmpty() || m > 0 && lacks(column, m) == 0 || m > 0 && form == 0) {
                return NONE;
            }
            if (m == 4 && (form < 7 || form > 21)) {
                return NONE;
            }
            String first = present.get(0);
            int sum = form == 0 ? 0 : form <= 6 ? 12 : form <= 21 ? 16 : form <= 30 ? 20 : 14 + 2 * first.length();
            sum += (m > 0 ? 6 : 0) + 2 * lacks(column, m);
            for (String cell : present) {
                if (!tells(form, cell, first) || m == 4 && value(cell, form) >= 9999 * power(decimals(form))) {
                    return NONE;
                }
                sum += cellCost(form, cell);
            }
            return sum;
        }

        private static int cellCost(int form, String cell) {
            int digits = cell.replaceAll("[^0-9]", "").length();
            int letters = cell.replaceAll("[^A-Za-z]", "").length();
            return form == 0 ? 4 + 8 * cell.length() : form <= 6 ? 1 : form <= 21 ? 4 + 4 * digits
                : form <= 30 ? 16 : 4 * digits + 5 * letters;
        }

        Choice choice(int column) {
            if (column < 0 || column >= width()) {
                return null;
            }
            if (!chosen[column]) {
                chosen[column] = true;
                for (int form = 0; form < 32; form++) {
                    for (int m = 0; m < 5; m++) {
                        int cost = costOf(column, form, m);
                        if (cost != NONE && (choices[column] == null || cost < choices[column].cost)) {
                            choices[column] = new Choice(form, m, cost);
                        }
                    }
                }
            }
            return choices[column];
        }

        int cost() {
            int sum = quoted ? 3 : 0;
            for (int column = 0; column < width(); column++) {
                sum += choice(column) == null ? 0 : choice(column).cost;
            }
            for (int row = 0; row < rows.size(); row++) {
                int bytes = String.join("", rows.get(row)).length();
                if (head && row == 0) {
                    sum += 4 * width() + 8 * bytes;
                } else if (!isInColumns(row)) {
                    sum += 30 + 8 * bytes;
                }
            }
            return sum;
        }

        int parts(int column, int form, int other, int m) {
            boolean known = form >= 0 && form < 32 && other >= 0 && other < 32 && m >= 0 && m < 5;
            if (!known || column < 0 || column >= width()) {
                return NONE;
            }
            for (int row = 0; row < rows.size(); row++) {
                if (isInColumns(row)) {
                    String cell = rows.get(row).get(column);
                    boolean missing = cell.equals(CODES[m]);
                    if (!missing && speaksAgainst(column, form, m, cell) != speaksAgainst(column, other, m, cell)) {
                        return row;
                    }
                }
            }
            return NONE;
        }

        private boolean speaksAgainst(int column, int form, int m, String cell) {
            boolean capped = m == 4 && form >= 7 && form <= 21;
            return !tells(form, cell, present(column, m).get(0))
                || capped && value(cell, form) >= 9999 * power(decimals(form));
        }
    }

    /** A reader with the text in it, made anew before it has had more calls than are promised. */
    private static final class Session {
        private final String text;
        private ColumnReader reader;
        private int calls;
        private int make;

        Session(String text) {
            this.text = text;
            renew();
        }

        void use(int make) {
            this.make = make;
            next().use(make);
        }

        ColumnReader next() {
            if (calls == CALL_LIMIT) {
                renew();
            }
            calls++;
            return reader;
        }

        private void renew() {
            reader = new ColumnReader();
            calls = 0;
            for (int from = 0; from < text.length(); from += 400) {
                int n = Math.min(400, text.length() - from);
                for (int k = 0; k < n; k += 20) {
                    reader.feed(word(from + k), word(from + k + 4), word(from + k + 8), word(from + k + 12),
                        word(from + k + 16));
                    calls++;
                }
                reader.add(n);
                calls++;
            }
            reader.use(make);
            calls++;
        }

        private int word(int from) {
            int word = 0;
            for (int i = from; i < from + 4; i++) {
                word = word << 8 | (i < text.length() ? text.charAt(i) : 32);
            }
            return word;
        }
    }

    /** Texts of several makes, most of them with a flaw or an edge somewhere. */
    private static final class Texts {
        static String table(Random random) {
            String mark = String.valueOf(MARKS.charAt(random.nextInt(4)));
            String quote = QUOTES[random.nextInt(3)];
            int width = 1 + random.nextInt(4);
            int rows = 1 + random.nextInt(9);
            int[] kinds = new int[width];
            String[] codes = new String[width];
            for (int i = 0; i < width; i++) {
                kinds[i] = random.nextInt(32);
                codes[i] = random.nextBoolean() ? CODES[1 + random.nextInt(4)] : null;
            }
            StringBuilder text = new StringBuilder();
            for (int row = 0; row < rows; row++) {
                int cells = random.nextInt(14) == 0 ? 1 + random.nextInt(5) : width;
                for (int i = 0; i < cells; i++) {
                    String cell = i >= width ? "x" : codes[i] != null && random.nextInt(3) == 0 ? codes[i]
                        : row == 0 && random.nextInt(3) == 0 ? "head" : cell(random, kinds[i]);
                    text.append(i == 0 ? "" : mark).append(wrapped(random, cell, mark, quote));
                }
                text.append(row + 1 < rows || random.nextBoolean() ? "\n" : "");
            }
            return cropped(text);
        }

        private static String wrapped(Random random, String cell, String mark, String quote) {
            boolean needed = cell.contains(mark) || random.nextInt(6) == 0;
            return quote.isEmpty() || !needed ? cell : quote + cell.replace(quote, quote + quote) + quote;
        }

        private static String cell(Random random, int form) {
            if (random.nextInt(30) == 0) {
                return cell(random, random.nextInt(32));
            }
            if (form == 0) {
                return letters(random, random.nextInt(8));
            }
            if (form <= 6) {
                return FLAGS[form - 1][random.nextInt(2)];
            }
            if (form <= 21) {
                return number(random, form);
            }
            if (form <= 30) {
                return day(random, form);
            }
            return "A" + random.nextInt(10) + "-" + (char) ('a' + random.nextInt(26)) + random.nextInt(10);
        }

        private static String number(Random random, int form) {
            long[] limits = {10, 1000, 10000, 1000000, 1000000000L, 2000000000L};
            long size = (long) (random.nextDouble() * limits[random.nextInt(limits.length)]);
            if (random.nextInt(6) == 0) {
                size = 9999 * power(decimals(form)) + random.nextInt(3) - 1;
            }
            String written = writeNumber(random.nextInt(4) == 0 ? -size : size, form);
            return random.nextInt(25) == 0 ? spoilt(random, written) : written;
        }

        private static String day(Random random, int form) {
            int[] years = {1599, 1600, 1700, 1900, 2000, 2021, 2024, 2999, 3000};
            int year = random.nextInt(3) == 0 ? years[random.nextInt(years.length)] : 1900 + random.nextInt(200);
            int month = random.nextInt(25) == 0 ? random.nextInt(15) : 1 + random.nextInt(12);
            int day = random.nextInt(5) == 0 ? 28 + random.nextInt(5) : 1 + random.nextInt(12);
            String written = write(year * 10000L + month * 100 + day, form, "");
            return random.nextInt(40) == 0 ? spoilt(random, written) : written;
        }

        private static String spoilt(Random random, String cell) {
            int at = random.nextInt(cell.length() + 1);
            String more = String.valueOf("0-.,/1".charAt(random.nextInt(6)));
            return cell.substring(0, at) + more + cell.substring(at);
        }

        private static String letters(Random random, int n) {
            StringBuilder letters = new StringBuilder();
            for (int i = 0; i < n; i++) {
                letters.append((char) (random.nextInt(8) == 0 ? random.nextInt(256) : 'a' + random.nextInt(26)));
            }
            return letters.toString();
        }

        static String soup(Random random) {
            String[] signs = {"\n\n,\"'01", "\n\n,;\"\"''\t|a1", "\n\n\n,,.-09", "\n\n-NA9,", "\n\n,,,;\"ab",
                "\n01.,-", "\n\n0,/-12", "\nFTyn01"};
            String sign = signs[random.nextInt(signs.length)];
            int n = random.nextInt(random.nextBoolean() ? 12 : 60);
            StringBuilder text = new StringBuilder();
            for (int i = 0; i < n; i++) {
                text.append(sign.charAt(random.nextInt(sign.length())));
            }
            return text.toString();
        }

        /** Texts near the limits of bytes, rows and cells. */
        static String full(Random random) {
            StringBuilder text = new StringBuilder();
            int rows = 78 + random.nextInt(4);
            int cells = 10 + random.nextInt(4);
            int kind = random.nextInt(3);
            for (int row = 0; row < rows; row++) {
                int n = kind == 0 ? 1 : kind == 1 ? Math.min(cells, 13) : 2;
                for (int i = 0; i < n; i++) {
                    text.append(i == 0 ? "" : ",").append(kind == 1 ? "" : cell(random, 7 + random.nextInt(2)));
                }
                text.append(row + 1 < rows || random.nextBoolean() ? "\n" : "");
            }
            if (random.nextInt(4) == 0) {
                text.append("'").append(letters(random, 30));
            }
            return cropped(text);
        }

        private static String cropped(StringBuilder text) {
            return text.length() > 1200 ? text.substring(0, 1200) : text.toString();
        }
    }
}
