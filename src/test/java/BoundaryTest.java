/**
 * Each sentence of the document that names a boundary (too small, too large, empty, full, a refused
 * call), in the document's order and quoted, with a test of its own.
 */
public final class BoundaryTest {
    private static final int NONE = -1;
    private static final int LEAST = Integer.MIN_VALUE;
    private static final int MOST = Integer.MAX_VALUE;
    /** A MAKE by which commas, points and quotes are bytes as others: one column for the tests of FORMS. */
    private static final int BARS = 18;

    private static int wrong = 0;
    private static int sentences = 0;
    private static String sentence = "";

    public static void main(String[] args) {
        calls();
        makes();
        rows();
        cells();
        quotes();
        faults();
        widths();
        missingCells();
        flags();
        wholeNumbers();
        decimals();
        thousands();
        days();
        codes();
        fitting();
        costs();
        newObject();
        feeding();
        adding();
        clearing();
        askingMakes();
        using();
        askingRows();
        askingColumns();
        askingPairs();
        askingValues();
        anyArgument();
        System.out.println(sentences + " sentences looked at, " + wrong + " answers not as due");
        if (wrong != 0) {
            System.exit(1);
        }
    }

    private static void sentence(String words) {
        sentence = words;
        sentences++;
    }

    private static void due(String what, long got, long want) {
        if (got != want) {
            wrong++;
            System.out.println("\"" + sentence + "\" " + what + " answered " + got + ", due is " + want);
        }
    }

    private static void due(String what, boolean got, boolean want) {
        due(what, got ? 1 : 0, want ? 1 : 0);
    }

    private static ColumnReader reader(String text) {
        ColumnReader x = new ColumnReader();
        put(x, text);
        return x;
    }

    private static ColumnReader reader(String text, int make) {
        ColumnReader x = reader(text);
        x.use(make);
        return x;
    }

    private static void put(ColumnReader x, String text) {
        for (int from = 0; from < text.length(); from += 400) {
            String part = text.substring(from, Math.min(from + 400, text.length()));
            tape(x, part);
            x.add(part.length());
        }
    }

    private static void tape(ColumnReader x, String part) {
        for (int k = 0; k < part.length(); k += 20) {
            x.feed(word(part, k), word(part, k + 4), word(part, k + 8), word(part, k + 12), word(part, k + 16));
        }
    }

    private static int word(String text, int from) {
        int word = 0;
        for (int i = from; i < from + 4; i++) {
            word = word << 8 | (i < text.length() ? text.charAt(i) : 32);
        }
        return word;
    }

    /** Letters that are unlike their neighbours, so that a shift or a gap is seen. */
    private static String letters(int n) {
        StringBuilder letters = new StringBuilder();
        for (int i = 0; i < n; i++) {
            letters.append((char) ('a' + i * 7 % 25));
        }
        return letters.toString();
    }

    private static String cell(ColumnReader x, int row, int cell) {
        StringBuilder bytes = new StringBuilder();
        int size = x.size(row, cell);
        for (int k = 0; k < size; k++) {
            bytes.append((char) x.at(row, cell, k));
        }
        return bytes.toString();
    }

    private static String back(ColumnReader x, int row, int column) {
        StringBuilder bytes = new StringBuilder();
        for (int k = 0; k < 40 && x.back(row, column, k) != NONE; k++) {
            bytes.append((char) x.back(row, column, k));
        }
        return bytes.toString();
    }

    private static void dueCell(ColumnReader x, int row, int cell, String want) {
        due("cell " + row + ", " + cell + " as " + want, cell(x, row, cell).equals(want), true);
        due("size " + row + ", " + cell, x.size(row, cell), want.length());
    }

    private static void dueFault(String text, int make, int fault, int spot) {
        due("reads by " + make, reader(text).reads(make), fault);
        due("faultAt by " + make, reader(text).faultAt(make), spot);
        due("cost by " + make + " is there", reader(text).cost(make) != NONE, fault == 0);
    }

    /** Whether a FORM tells a column of one such cell. */
    private static void dueTold(String cell, int form, boolean want) {
        due(cell + " by " + form, reader(cell + "\n", BARS).costOf(0, form, 0) != NONE, want);
    }

    private static void calls() {
        sentence("An object is used for at most 512 calls after it has been made; what later calls answer is free.");
        ColumnReader x = reader("251\n17\n");
        for (int i = 2; i < 511; i++) {
            x.best();
        }
        due("call 512", x.form(0), 7);
        for (int i = 0; i < 600; i++) {
            x.feed(i, i, i, i, i);
            x.add(i % 21);
            x.form(0);
        }
    }

    private static void makes() {
        sentence("A MAKE (0 to 23) is 6 a + 2 b + c");
        String marks = ",;\t|";
        String text = "1,2;3\t4|5\n6,7;8\t9|0\n";
        for (int make = 0; make < 24; make++) {
            ColumnReader x = reader(text, make);
            due("cells by " + make, x.breadth(0), 2);
            due("the mark of " + make, x.size(0, 0), text.indexOf(marks.charAt(make / 6)));
            due("a head by " + make, x.key(0) != NONE && x.back(0, 0, 0) == NONE, make % 2 == 1);
            String doubled = "\"\"\n''\n";
            ColumnReader quoted = reader(doubled, make);
            due("byte 34 by " + make, quoted.size(0, 0), make / 2 % 3 == 1 ? 0 : 2);
            due("byte 39 by " + make, quoted.size(1, 0), make / 2 % 3 == 2 ? 0 : 2);
        }
        int[] none = {LEAST, -24, -1, 24, 25, MOST};
        for (int make : none) {
            ColumnReader x = reader("'a");
            due("reads by " + make, x.reads(make), NONE);
            due("faultAt by " + make, x.faultAt(make), NONE);
            due("cost by " + make, x.cost(make), NONE);
            due("use of " + make, x.use(make), false);
        }
    }

    private static void rows() {
        sentence("ROWS end by byte 10, the last one by it or by the text's end");
        due("ended by byte 10", reader("a\nb\n").about(0), 2);
        due("ended by the text's end", reader("a\nb").about(0), 2);
        dueCell(reader("a\nb"), 1, 0, "b");
        dueCell(reader("a\r\nb"), 0, 0, "a\r");
        sentence("behind a last byte 10 there is no further row");
        due("rows", reader("a\n").about(0), 1);
        due("a row behind", reader("a\n").breadth(1), NONE);
        due("an empty row ahead of the last byte 10", reader("a\n\n").about(0), 2);
        due("byte 10 alone", reader("\n").about(0), 1);
        due("behind a quoted cell", reader("'a'\n", 4).about(0), 1);
        ColumnReader x = reader("a\n");
        put(x, "b");
        due("a row there as soon as a byte comes", x.about(0), 2);
        sentence("the empty text has none");
        due("rows", reader("").about(0), 0);
        due("width", reader("").about(1), 0);
        due("odd rows", reader("").about(2), 0);
        due("breadth", reader("").breadth(0), NONE);
    }

    private static void cells() {
        sentence("CELLS of a row are what stands between MARKS.");
        due("an empty row has one", reader("\n").breadth(0), 1);
        dueCell(reader("\n"), 0, 0, "");
        due("a mark alone has two", reader(",").breadth(0), 2);
        dueCell(reader(","), 0, 0, "");
        dueCell(reader(","), 0, 1, "");
        due("a mark last in its row", reader("a,\nb").breadth(0), 2);
        dueCell(reader("a,\nb"), 0, 1, "");
        due("a mark first in its row", reader(",a").breadth(0), 2);
        dueCell(reader(",a"), 0, 1, "a");
        dueCell(reader(" a , b "), 0, 1, " b ");
    }

    private static void quotes() {
        sentence("With QUOTES a cell whose first byte is one is QUOTED");
        dueCell(reader("'a'", 4), 0, 0, "a");
        dueCell(reader(" 'a'", 4), 0, 0, " 'a'");
        dueCell(reader("'a'", 0), 0, 0, "'a'");
        dueCell(reader("'a'", 2), 0, 0, "'a'");
        dueCell(reader("b,'a'\n'c'", 4), 0, 1, "a");
        dueCell(reader("b,'a'\n'c'", 4), 1, 0, "c");
        sentence("it goes to the next QUOTE that isn't doubled; a doubled one within is one");
        dueCell(reader("\"\"", 2), 0, 0, "");
        dueCell(reader("\"\"\"\"", 2), 0, 0, "\"");
        dueCell(reader("\"\"\"\"\"\"", 2), 0, 0, "\"\"");
        dueCell(reader("\"\"\"a\"", 2), 0, 0, "\"a");
        dueCell(reader("\"a\"\"\"", 2), 0, 0, "a\"");
        dueCell(reader("\"a''b\"", 2), 0, 0, "a''b");
        due("three", reader("\"\"\"").reads(2), 1);
        due("five", reader("\"\"\"\"\"").reads(2), 1);
        sentence("MARKS and bytes 10 within are its own");
        dueCell(reader("',\n,'", 4), 0, 0, ",\n,");
        due("rows", reader("'\n'\n", 4).about(0), 1);
        due("cells", reader("',',','", 4).breadth(0), 2);
        sentence("behind its end a MARK, byte 10 or the text's end must come");
        due("a mark", reader("'a',").reads(4), 0);
        due("byte 10", reader("'a'\n").reads(4), 0);
        due("the text's end", reader("'a'").reads(4), 0);
        due("a mark of another make", reader("'a';").reads(4), 2);
        due("a blank", reader("'a' ,").reads(4), 2);
        due("byte 13", reader("'a'\r\n").reads(4), 2);
        due("the other quote", reader("'a'\"").reads(4), 2);
        sentence("a QUOTE within a cell that isn't QUOTED is a byte as others");
        dueCell(reader("a'", 4), 0, 0, "a'");
        dueCell(reader("a''b',c", 4), 0, 0, "a''b'");
        due("the mark behind it parts cells", reader("a',b'", 4).breadth(0), 2);
    }

    private static void faults() {
        sentence("1 a QUOTED cell doesn't end (at its first byte)");
        dueFault("'", 4, 1, 0);
        dueFault("a,b\n'c\n'", 4, 0, NONE);
        dueFault("a,b\n'c\nd", 4, 1, 4);
        dueFault("a,'", 4, 1, 2);
        dueFault("'a''", 4, 1, 0);
        sentence("2 something else stands behind its end (there)");
        dueFault("''a", 4, 2, 2);
        dueFault("x\n'a'b'", 4, 2, 5);
        dueFault("'a''b' ", 4, 2, 6);
        sentence("3 a row more than 80 (where it begins)");
        dueFault("\n".repeat(80), 0, 0, NONE);
        dueFault("\n".repeat(79) + "a", 0, 0, NONE);
        dueFault("\n".repeat(81), 0, 3, 80);
        dueFault("\n".repeat(80) + "a", 0, 3, 80);
        dueFault("ab\n".repeat(81), 1, 3, 240);
        dueFault("'\n'\n".repeat(80), 4, 0, NONE);
        due("row 80 is there", reader("a\n".repeat(80)).breadth(79), 1);
        due("row 81 is not", reader("a\n".repeat(80)).breadth(80), NONE);
        sentence("3 a cell more than 12 in a row (where it begins)");
        dueFault(",".repeat(11), 0, 0, NONE);
        dueFault(",".repeat(12), 0, 3, 12);
        dueFault("ab,".repeat(11) + "ab\n", 0, 0, NONE);
        dueFault("ab,".repeat(12) + "ab\n", 0, 3, 36);
        dueFault("ab,".repeat(12) + "\n", 0, 3, 36);
        dueFault("a\n" + ",".repeat(12), 0, 3, 14);
        dueFault(",".repeat(11) + "\n" + ",".repeat(11), 0, 0, NONE);
        dueFault("'" + ",".repeat(12) + "'", 4, 0, NONE);
        due("cell 12 is there", reader(",".repeat(11)).size(0, 11), 0);
        due("cell 13 is not", reader(",".repeat(11)).size(0, 12), NONE);
        due("80 rows of 12", reader((",".repeat(11) + "\n").repeat(80)).about(0), 80);
        sentence("4 with a HEAD: no row is there (at 0)");
        for (int make = 0; make < 24; make++) {
            dueFault("", make, make % 2 == 1 ? 4 : 0, make % 2 == 1 ? 0 : NONE);
            dueFault("\n", make, 0, NONE);
        }
        sentence("It's the first along the text.");
        dueFault("'a'b,'c", 4, 2, 3);
        dueFault("a'b,'c\n'd'e", 4, 2, 8);
        dueFault("'a'b\n" + "\n".repeat(80), 4, 2, 3);
        dueFault(",".repeat(12) + "'a'b", 4, 3, 12);
        dueFault("\n".repeat(80) + ",".repeat(12), 0, 3, 80);
        dueFault(",".repeat(12) + "\n".repeat(81), 0, 3, 12);
        dueFault("\n".repeat(79) + "'a'b\n\n", 4, 2, 82);
    }

    private static void widths() {
        sentence("WIDTH: the cells of the first row.");
        due("one", reader("\n,,\n").about(1), 1);
        due("twelve", reader(",".repeat(11) + "\n\n").about(1), 12);
        due("the head's", reader("a,b\nc\n", 1).about(1), 2);
        sentence("Other rows with another number of cells are ODD.");
        ColumnReader x = reader("a,b\nc\nd,e\nf,g,h\n\n");
        due("how many", x.about(2), 3);
        due("one cell less", x.odd(0), 1);
        due("one cell more", x.odd(1), 3);
        due("an empty row", x.odd(2), 4);
        due("no more", x.odd(3), NONE);
        due("an empty row is none where the width is 1", reader("a\n\nb\n").about(2), 0);
        due("79 of them", reader("a\n" + ",\n".repeat(79)).about(2), 79);
        due("the last of them", reader("a\n" + ",\n".repeat(79)).odd(78), 79);
        sentence("A COLUMN (0 to WIDTH - 1)");
        due("below the first", x.form(-1), NONE);
        due("the first", x.form(0), 0);
        due("the last", x.form(1), 0);
        due("behind the last, though a row has a cell there", x.form(2), NONE);
        due("the twelfth", reader(",".repeat(11)).form(11), 0);
        due("a thirteenth", reader(",".repeat(11)).form(12), NONE);
        sentence("its cells of all rows that aren't the HEAD or ODD, in order");
        due("not the head", reader("x\n251\n17\n", 1).form(0), 7);
        due("not odd rows", reader("251,a\nx\n17,b\ny,c,d\n").form(0), 7);
        due("the head is not odd", reader("x\n25\n", 1).about(2), 0);
    }

    private static void missingCells() {
        sentence("0 none, 1 the empty cell, 2 -, 3 NA, 4 9999; a cell that is just that is MISSING");
        String[] codes = {"", "-", "NA", "9999"};
        for (int m = 1; m <= 4; m++) {
            ColumnReader x = reader("5\n" + codes[m - 1] + "\n70\n81\n-9\n", BARS);
            for (int other = 0; other <= 4; other++) {
                boolean fits = other == m || m == 4 && other == 0;
                due(codes[m - 1] + " by code " + other, x.costOf(0, 7, other) != NONE, fits);
            }
            due("how many lack", x.lacks(0), 1);
        }
        String[] near = {" ", "--", "- ", "N", "NAA", "NA ", "na", "Na", "nA", "A"};
        for (String cell : near) {
            ColumnReader x = reader("5\n" + cell + "\n", BARS);
            for (int m = 1; m <= 4; m++) {
                due(cell + " by code " + m, x.costOf(0, 7, m), NONE);
            }
        }
        String[] nearBig = {"999", "99999", "9998", "-9999", "9,999", "9999.0"};
        for (String cell : nearBig) {
            for (int form = 7; form <= 10; form++) {
                due(cell + " is not 9999", reader("5\n" + cell + "\n", BARS).costOf(0, form, 4), NONE);
            }
        }
        due("quotes don't count", reader("5\n'NA'\n''\n", 4).costOf(0, 0, 0), 12 + 20 + 4);
        due("NA in quotes", reader("5\n'NA'\n7\n", 4).missing(0), 3);
        due("the empty cell in quotes", reader("25\n''\n17\n", 4).missing(0), 1);
    }

    private static void flags() {
        sentence("1 to 6 FLAG: just one of the two: 0 1, n y, N Y, no yes, false true, F T.");
        String[][] pairs = {{"0", "1"}, {"n", "y"}, {"N", "Y"}, {"no", "yes"}, {"false", "true"}, {"F", "T"}};
        for (int i = 0; i < 6; i++) {
            for (int form = 1; form <= 6; form++) {
                dueTold(pairs[i][0], form, form == i + 1);
                dueTold(pairs[i][1], form, form == i + 1);
            }
            ColumnReader x = reader((pairs[i][0] + "\n" + pairs[i][1] + "\n").repeat(5));
            due("form", x.form(0), i + 1);
            due("the first", x.value(0, 0), 0);
            due("the second", x.value(1, 0), 1);
        }
        String[] none = {"", "00", "01", "-0", "2", "no ", " no", "No", "NO", "ye", "Yes", "False", "TRUE", "t", "f"};
        for (String cell : none) {
            for (int form = 1; form <= 6; form++) {
                dueTold(cell, form, false);
            }
        }
    }

    private static void dueNumber(String cell, int form, long value) {
        String cells = (cell + "\n").repeat(20);
        ColumnReader x = reader(cells + "-1" + tail(form) + "\n1" + tail(form) + "\n", BARS);
        due(cell + " by " + form, reader(cell, BARS).costOf(0, form, 0), 16 + 4 + 4 * digits(cell));
        due("the form of " + cell, x.form(0), form);
        due("the value of " + cell, x.value(0, 0), value);
        due("what " + cell + " is written as", back(x, 0, 0).equals(cell), true);
    }

    private static int digits(String cell) {
        return cell.replaceAll("[^0-9]", "").length();
    }

    /** The decimals, all 0, that a NUMBER of a FORM ends with. */
    private static String tail(int form) {
        String[] tails = {"", ".0", ".00", ".000"};
        String tail = form < 10 ? "" : tails[(form - 10) / 4 + 1];
        return form >= 10 && (form - 10) % 4 >= 2 ? tail.replace('.', ',') : tail;
    }

    private static void wholeNumbers() {
        sentence("a - or not");
        dueTold("-5", 7, true);
        dueTold("--5", 7, false);
        dueTold("+5", 7, false);
        dueTold("5-", 7, false);
        dueTold("-", 7, false);
        dueTold("", 7, false);
        dueTold("5 ", 7, false);
        dueTold("/", 7, false);
        dueTold(":", 7, false);
        sentence("digits without a 0 ahead (but 0 alone");
        dueTold("0", 7, true);
        dueTold("00", 7, false);
        dueTold("05", 7, false);
        dueTold("-05", 7, false);
        dueTold("50", 7, true);
        dueTold("0.5", 10, true);
        dueTold("-0.5", 10, true);
        dueTold("00.5", 10, false);
        dueTold("01.5", 10, false);
        dueTold("0,123", 8, false);
        dueTold("0,123.5", 11, false);
        sentence("no - ahead of a value of 0)");
        dueTold("-0", 7, false);
        dueTold("-0.0", 10, false);
        dueTold("-0,000", 20, false);
        dueTold("-0.1", 10, true);
        dueTold("-0,001", 20, true);
        dueTold("0.0", 10, true);
        sentence("at most 9 in all");
        dueNumber("999999999", 7, 999999999);
        dueNumber("-999999999", 7, -999999999);
        dueNumber("-100000000", 7, -100000000);
        dueTold("1000000000", 7, false);
        dueTold("-1000000000", 7, false);
        dueTold("4294967297", 7, false);
        dueNumber("999,999,999", 8, 999999999);
        dueTold("1,000,000,000", 8, false);
        dueNumber("-999.999.999", 9, -999999999);
        dueTold("1.000.000.000", 9, false);
        dueNumber("99999999.9", 10, 999999999);
        dueTold("999999999.9", 10, false);
        dueNumber("-999,999.999", 19, -999999999);
        dueTold("1,000,000.000", 19, false);
        dueNumber("9.999.999,99", 17, 999999999);
        dueTold("10.000.000,00", 17, false);
    }

    private static void decimals() {
        sentence("10 + 4 (d - 1) + k with d (1 to 3) decimals");
        String[] points = {"5.", "5.1", "5.12", "5.123", "5.1234"};
        for (int d = 0; d <= 4; d++) {
            for (int form = 10; form <= 21; form++) {
                boolean told = d == (form - 10) / 4 + 1;
                dueTold(points[d], form, told && (form - 10) % 4 < 2);
                dueTold(points[d].replace('.', ','), form, told && (form - 10) % 4 >= 2);
            }
        }
        dueTold(".5", 10, false);
        dueTold("-.5", 10, false);
        dueTold("5", 10, false);
        dueTold("5..5", 10, false);
        dueTold("5.-5", 14, false);
        dueTold("5.5-", 14, false);
        dueTold("5:5", 10, false);
        dueTold(".", 10, false);
        dueTold("-.", 10, false);
        sentence("Its value: all digits as one whole number, with the sign.");
        dueNumber("0.01", 14, 1);
        dueNumber("-0.01", 14, -1);
        dueNumber("-12,345.67", 15, -1234567);
    }

    private static void thousands() {
        sentence("THOUSANDS stand ahead of each third digit from the right (of those ahead of decimals), and nowhere "
            + "else.");
        int[] comma = {8, 11, 15, 19};
        int[] point = {9, 13, 17, 21};
        String[] told = {"1", "12", "123", "1,234", "12,345", "123,456", "-1", "-123", "-1,234", "-123,456"};
        String[] not = {"1234", "12345", "1,23", "12,34", "1,2345", "1234,567", "1,234567", ",123", "-,123", "1,,234",
            "1,234,", ",1,234", "1.234", "1 234", "1,2,345", "12,3456", "1,", "-1234"};
        for (int i = 0; i < 4; i++) {
            for (String whole : told) {
                dueTold(whole + tail(comma[i]), comma[i], true);
                dueTold(whole.replace(',', '.') + tail(point[i]), point[i], true);
            }
            for (String whole : not) {
                dueTold(whole + tail(comma[i]), comma[i], false);
                String swapped = whole.replace('.', ' ').replace(',', '.');
                dueTold(swapped + tail(point[i]), point[i], false);
            }
        }
        dueTold("1,234,567", 8, true);
        dueTold("1,234567", 8, false);
        dueTold("1234,567", 8, false);
        dueTold("1.234,567", 8, false);
        dueTold("1,234.567", 9, false);
        int[] bare = {7, 10, 12, 14, 16, 18, 20};
        for (int form : bare) {
            dueTold("1234" + tail(form), form, true);
            dueTold("1,234" + tail(form), form, false);
            dueTold("1.234" + tail(form), form, false);
        }
        dueTold("1.2,345", 20, false);
        dueTold("1.5,000", 11, false);
    }

    private static void dueDays(String year, String month, String day, boolean want) {
        String[] orders = {day + "/" + month + "/" + year, month + "/" + day + "/" + year,
            year + "/" + month + "/" + day};
        String[] signs = {"/", "-", "."};
        for (int o = 0; o < 3; o++) {
            for (int s = 0; s < 3; s++) {
                dueTold(orders[o].replace("/", signs[s]), 22 + 3 * o + s, want);
            }
        }
    }

    private static void days() {
        sentence("two digits, two, four for the year (1600 to 2999)");
        dueDays("1599", "12", "31", false);
        dueDays("1600", "01", "01", true);
        dueDays("2999", "12", "31", true);
        dueDays("3000", "01", "01", false);
        dueDays("0000", "01", "01", false);
        dueDays("9999", "01", "01", false);
        dueDays("999", "01", "01", false);
        dueDays("02020", "01", "01", false);
        dueDays("20200", "01", "01", false);
        dueDays("2020", "01", "011", false);
        dueDays("2020", "1", "01", false);
        dueDays("2020", "01", "1", false);
        dueDays("2020", "001", "01", false);
        dueDays("2020", "1", "011", false);
        dueDays("2020", "-1", "01", false);
        dueDays("2020", "01", "+1", false);
        dueDays("20 0", "01", "01", false);
        sentence("a day that there is");
        String[] months = {"01", "02", "03", "04", "05", "06", "07", "08", "09", "10", "11", "12"};
        int[] last = {31, 28, 31, 30, 31, 30, 31, 31, 30, 31, 30, 31};
        for (int i = 0; i < 12; i++) {
            dueDays("2021", months[i], "00", false);
            dueDays("2021", months[i], "01", true);
            dueDays("2021", months[i], String.valueOf(last[i]), true);
            dueDays("2021", months[i], String.valueOf(last[i] + 1), false);
        }
        dueDays("2021", "00", "01", false);
        dueTold("2021-13-01", 29, false);
        dueTold("01/13/2021", 22, false);
        dueTold("13/01/2021", 25, false);
        dueDays("2021", "99", "99", false);
        String[] leap = {"1600", "2000", "2400", "2800", "1604", "2024", "2996"};
        for (String year : leap) {
            dueDays(year, "02", "29", true);
            dueDays(year, "02", "30", false);
        }
        String[] plain = {"1700", "1800", "1900", "2100", "2900", "2021", "2022", "2023", "2999"};
        for (String year : plain) {
            dueDays(year, "02", "29", false);
        }
        sentence("between them s 0 /, 1 -, 2 a point");
        String[] mixed = {"2020-01/01", "2020/01-01", "2020.01-01", "2020 01 01", "20200101", "2020:01:01",
            "2020-01-0"};
        for (String day : mixed) {
            for (int form = 28; form <= 30; form++) {
                dueTold(day, form, false);
            }
        }
        dueTold("01/02-2020", 22, false);
        dueTold("01-02/2020", 22, false);
        sentence("Its value: year times 10,000, month times 100, day.");
        due("the first day", reader("1600-01-01\n").value(0, 0), 16000101);
        due("the last day", reader("31.12.2999\n").value(0, 0), 29991231);
        due("month first", reader("12/31/2999\n").value(0, 0), 29991231);
    }

    private static void codes() {
        sentence("31 CODE: as many bytes (1 to 20) as the first cell (that isn't MISSING) has");
        dueTold("", 31, false);
        dueTold("a", 31, true);
        dueTold("a".repeat(20), 31, true);
        dueTold("a".repeat(21), 31, false);
        due("one byte more", reader("ab\nabc\n").costOf(0, 31, 0), NONE);
        due("one byte less", reader("ab\na\n").costOf(0, 31, 0), NONE);
        due("the empty cell later", reader("ab\n\n").costOf(0, 31, 0), NONE);
        due("the empty cell first", reader("\nab\n").costOf(0, 31, 0), NONE);
        due("the empty cell first, as missing", reader("\nab\n").costOf(0, 31, 1), 14 + 4 + 6 + 2 + 10);
        due("a long first cell", reader("a".repeat(21) + "\nab\n").parts(0, 0, 31, 0), 0);
        due("a cell behind a long first one", reader("a".repeat(21) + ",\nab,\n").parts(0, 31, 4, 0), NONE);
        due("not by the head", reader("abc\nab\ncd\n", 1).costOf(0, 31, 0), 14 + 4 + 20);
        sentence("each of its sort: a digit, a letter A to Z, a letter a to z, or just that other byte");
        String[] sorts = {"09", "AZ", "az", "//", "::", "@@", "[[", "``", "{{", "  ", "\u0000\u0000", "\u00ff\u00ff",
            "\u007f\u007f", "\u0080\u0080"};
        for (int i = 0; i < sorts.length; i++) {
            for (int j = 0; j < sorts.length; j++) {
                String cells = sorts[i].charAt(0) + "\n" + sorts[j].charAt(1) + "\n";
                due(cells.replace('\n', ' '), reader(cells, BARS).costOf(0, 31, 0) != NONE, i == j);
            }
        }
        due("at the last byte", reader("aaaB\naaab\n").costOf(0, 31, 0), NONE);
        due("at the first byte", reader("Baaa\nbaaa\n").costOf(0, 31, 0), NONE);
        sentence("Its value: 0.");
        due("of digits with a 0 ahead", reader("007\n008\n").form(0), 31);
        due("of digits with a 0 ahead", reader("007\n008\n").value(0, 0), 0);
    }

    private static void fitting() {
        sentence("fits a COLUMN if it has a cell that isn't MISSING");
        String[] codes = {"", "-", "NA", "9999"};
        for (int m = 1; m <= 4; m++) {
            ColumnReader x = reader((codes[m - 1] + "\n").repeat(3));
            for (int form = 0; form <= 31; form++) {
                due("all " + codes[m - 1] + " by " + form, x.costOf(0, form, m), NONE);
            }
            due("missing", x.missing(0), 0);
            due("lacks", x.lacks(0), 0);
        }
        sentence("its FORM tells all these");
        due("all but the last", reader("5\n".repeat(79) + "x").costOf(0, 7, 0), NONE);
        due("all but the first", reader("x\n" + "5\n".repeat(79)).costOf(0, 7, 0), NONE);
        due("all of 80", reader("5\n".repeat(80)).costOf(0, 7, 0), 16 + 640);
        sentence("(m above 0) it has one that is MISSING");
        for (int m = 1; m <= 4; m++) {
            due("none by " + m, reader("5\n7\n").costOf(0, 7, m), NONE);
            due("one by " + m, reader("5\n" + codes[m - 1] + "\n").costOf(0, 7, m), 16 + 6 + 8 + 2);
            due("the head alone by " + m, reader(codes[m - 1] + "\n5\n", 1).costOf(0, 7, m), NONE);
            due("an odd row alone by " + m, reader("5,5\n" + codes[m - 1] + "\n").costOf(0, 7, m), NONE);
        }
        sentence("m is 0 of TEXT");
        for (int m = 1; m <= 4; m++) {
            due("text by " + m, reader("5\n" + codes[m - 1] + "\n").costOf(0, 0, m), NONE);
        }
        sentence("m is 4 of NUMBER alone");
        String[] tellers = {"1", "y", "Y", "yes", "true", "T"};
        for (int form = 1; form <= 6; form++) {
            due("flag " + form, reader(tellers[form - 1] + "\n9999\n").costOf(0, form, 4), NONE);
            due("flag " + form + " with NA", reader(tellers[form - 1] + "\nNA\n").costOf(0, form, 3), 12 + 6 + 1 + 2);
        }
        due("a day", reader("2020-01-01\n9999\n").costOf(0, 29, 4), NONE);
        due("a code", reader("AB\n9999\n").costOf(0, 31, 4), NONE);
        for (int form = 7; form <= 21; form++) {
            due("number " + form, reader("1" + tail(form) + "\n9999\n", BARS).costOf(0, form, 4) != NONE, true);
        }
        sentence("if the values of all others are below 9999 times 10 to the d");
        String[] below = {"9998", "9998.9", "9998.99", "9998.999"};
        String[] level = {"9999", "9999.0", "9999.00", "9999.000"};
        for (int d = 0; d <= 3; d++) {
            for (int k = 0; k < (d == 0 ? 3 : 4); k++) {
                int form = d == 0 ? 7 + k : 10 + 4 * (d - 1) + k;
                due("below by " + form, reader(by(form, below[d]) + "\n9999\n", BARS).costOf(0, form, 4) != NONE, true);
                // By FORM 7 the level one is the missing code itself: no other cell is there.
                due("level by " + form, reader(by(form, level[d]) + "\n9999\n", BARS).costOf(0, form, 4), NONE);
            }
        }
        due("just above", reader("10000\n9999\n").costOf(0, 7, 4), NONE);
        due("far below 0", reader("-999999999\n9999\n").costOf(0, 7, 4), 16 + 6 + 40 + 2);
        due("the last alone isn't", reader("5\n9999\n10000\n").costOf(0, 7, 4), NONE);
        due("of other codes it isn't asked", reader("NA\n10000\n").costOf(0, 7, 3), 16 + 6 + 2 + 24);
        sentence("(0 tells every column that has a cell.)");
        due("an empty cell", reader("\n").form(0), 0);
        due("any bytes", reader("\u0000\u00ff\r\u0080").costOf(0, 0, 0), 36);
        due("no cell", reader("a\n", 1).costOf(0, 0, 0), NONE);
    }

    /** A number with a point ahead of its decimals, written by another FORM; it is 1,000 or above. */
    private static String by(int form, String number) {
        int k = form < 10 ? new int[] {0, 1, 3}[form - 7] : (form - 10) % 4;
        String tail = number.substring(4);
        String whole = k % 2 == 0 ? number.substring(0, 4)
            : number.substring(0, 1) + (k == 1 ? "," : ".") + number.substring(1, 4);
        return whole + (k < 2 ? tail : tail.replace('.', ','));
    }

    private static void costs() {
        sentence("COST: of a COLUMN by FORM and m");
        due("text of an empty cell", reader("\n").costOf(0, 0, 0), 4);
        due("text of a full text", reader(letters(1200)).costOf(0, 0, 0), 4 + 9600);
        due("flag", reader("0\n").costOf(0, 1, 0), 13);
        due("number, the sign and signs between are free", reader("-1,234.5\n", 6).costOf(0, 11, 0), 16 + 4 + 20);
        due("day", reader("2020-01-01\n").costOf(0, 29, 0), 36);
        due("code, other bytes are free", reader("a-B_7\n").costOf(0, 31, 0), 14 + 10 + 14);
        for (int form = 7; form <= 21; form++) {
            String cell = "-1" + tail(form);
            due(cell + " by " + form, reader(cell, BARS).costOf(0, form, 0), 16 + 4 + 4 * digits(cell));
        }
        for (int form = 22; form <= 30; form++) {
            String sign = String.valueOf("/-.".charAt((form - 22) % 3));
            String cell = (form < 28 ? "01/01/2020" : "2020/01/01").replace("/", sign);
            due(cell + " by " + form, reader(cell).costOf(0, form, 0), 36);
        }
        due("all but one are missing", reader("5\n" + "NA\n".repeat(79)).costOf(0, 7, 3), 16 + 6 + 8 + 158);
        sentence("A COLUMN's FORM is that with the least COST, of several the least FORM, then m.");
        due("text and code at 24", reader("a\n1\n3\n", 1).form(0), 0);
        due("text and code at 24", reader("1\n3\n").form(0), 0);
        due("the costs", reader("1\n3\n").costOf(0, 0, 0) == reader("1\n3\n").costOf(0, 31, 0), true);
        due("7 ahead of 8 and 9", reader("251\n17\n").form(0), 7);
        due("day first ahead of month first", reader("01/02/2020\n").form(0), 22);
        due("a code at less than a text", reader("1\n3\n5\n").form(0), 31);
        sentence("A COLUMN without cells has none, COST 0.");
        due("the head alone", reader("ab,c\n").cost(1), 8 + 24);
        due("the head and odd rows", reader("ab,c\nd\n").cost(1), 8 + 24 + 30 + 8);
        due("its form", reader("ab,c\nd\n", 1).form(1), NONE);
        ColumnReader x = reader("ab,c\n");
        due("with cells by another make", x.cost(0), 20 + 12);
        due("without cells then", x.cost(1), 8 + 24);
        sentence("COST of a MAKE");
        due("3 if quotes are not none", reader("a").cost(2) - reader("a").cost(0), 3);
        due("3 for the other ones too", reader("a").cost(4) - reader("a").cost(0), 3);
        due("an empty head", reader("\n").cost(1), 4);
        due("a head of 12 empty cells", reader(",".repeat(11)).cost(1), 48);
        due("an odd row without bytes", reader("a\n,\n").cost(0), 12 + 30);
        due("an odd row's quotes and doubled ones", reader("a\n'b''c',\n").cost(4), 3 + 12 + 30 + 24);
        due("the full text", reader(letters(1200)).cost(0), 9604);
        due("79 odd rows", reader("\n" + ",\n".repeat(79)).cost(0), 4 + 79 * 30);
    }

    private static void newObject() {
        sentence("ColumnReader(): An empty text, an empty tape; MAKE 0 is used.");
        due("text", new ColumnReader().about(4), 0);
        due("tape", new ColumnReader().about(5), 0);
        due("make", new ColumnReader().about(3), 0);
        due("rows", new ColumnReader().about(0), 0);
        due("nothing to add", new ColumnReader().add(1), -2);
        due("the cheapest make", new ColumnReader().best(), 0);
        ColumnReader x = reader("a", 23);
        ColumnReader y = new ColumnReader();
        due("of one object the other knows nothing", y.about(3) + y.about(4), 0);
        due("nor the first of the second", x.about(3) + x.about(4), 24);
    }

    private static void feeding() {
        sentence("Twenty bytes come behind those on the tape, of each number the highest first: how many there are.");
        ColumnReader x = new ColumnReader();
        due("the first twenty", x.feed(0x80000001, 0x7FFFFFFE, -1, 0x0B0C0D0E, LEAST), 20);
        due("behind them", x.feed(0, 0, 0, 0, MOST), 40);
        due("all of them", x.add(40), 40);
        int[] want = {128, 0, 0, 1, 127, 255, 255, 254, 255, 255, 255, 255, 11, 12, 13, 14, 128, 0, 0, 0};
        for (int k = 0; k < 40; k++) {
            due("byte " + k, x.at(0, 0, k), k < 20 ? want[k] : k < 36 ? 0 : k == 36 ? 127 : 255);
        }
        sentence("NONE, doing nothing: there would be more than 400.");
        ColumnReader full = new ColumnReader();
        String bytes = letters(400);
        tape(full, bytes.substring(0, 380));
        due("nineteen times twenty", full.about(5), 380);
        int[] last = {word(bytes, 380), word(bytes, 384), word(bytes, 388), word(bytes, 392), word(bytes, 396)};
        due("just 400", full.feed(last[0], last[1], last[2], last[3], last[4]), 400);
        due("420", full.feed(0, 0, 0, 0, 0), NONE);
        due("again", full.feed(MOST, MOST, MOST, MOST, MOST), NONE);
        due("as many as before", full.about(5), 400);
        due("the text is as before", full.about(4), 0);
        full.add(400);
        dueCell(full, 0, 0, bytes);
        due("room again", full.feed(0, 0, 0, 0, 0), 20);
    }

    private static void adding() {
        sentence("The first n bytes of the tape (which is empty then) come behind the text: its bytes.");
        ColumnReader x = new ColumnReader();
        tape(x, "abcdefghijklmnopqrst");
        due("three", x.add(3), 3);
        due("the others are gone", x.about(5), 0);
        due("nothing is left to add", x.add(1), -2);
        tape(x, "uvwxyzuvwxyzuvwxyzuv");
        due("all", x.add(20), 23);
        dueCell(x, 0, 0, "abcuvwxyzuvwxyzuvwxyzuv");
        x.feed(0, 0, 0, 0, 0);
        due("none of them", x.add(0), 23);
        due("the tape is empty then too", x.about(5), 0);
        due("none of none", x.add(0), 23);
        sentence("-2, doing nothing: n is below 0 or more than there are");
        int[] refused = {LEAST, -20, -1, 21, 40, 400, 401, 1200, 1201, MOST};
        ColumnReader y = reader("xy", 5);
        tape(y, "abcdefghijklmnopqrst");
        for (int n : refused) {
            due("add of " + n, y.add(n), -2);
            due("the tape", y.about(5), 20);
            due("the text", y.about(4), 2);
            due("the make", y.about(3), 5);
        }
        due("then just as many as there are", y.add(20), 22);
        dueCell(y, 0, 0, "xyabcdefghijklmnopqrst");
        sentence("NONE, doing nothing: there would be more than 1,200.");
        String text = letters(1190);
        ColumnReader z = reader(text, 3);
        tape(z, "0123456789ABCDEFGHIJ");
        due("one too many", z.add(11), NONE);
        due("all", z.add(20), NONE);
        due("more than there are comes first", z.add(21), -2);
        due("below 0 comes first", z.add(-1), -2);
        due("the tape", z.about(5), 20);
        due("the text", z.about(4), 1190);
        due("the make", z.about(3), 3);
        due("just 1,200", z.add(10), 1200);
        z.use(0);
        due("the last byte", z.at(0, 0, 1199), '9');
        due("the byte ahead of it", z.at(0, 0, 1198), '8');
        due("behind the last byte", z.at(0, 0, 1200), NONE);
        due("the byte ahead of those added", z.at(0, 0, 1189), text.charAt(1189));
        z.feed(0, 0, 0, 0, 0);
        due("one more", z.add(1), NONE);
        due("none more", z.add(0), 1200);
    }

    private static void clearing() {
        sentence("The text is empty again (MAKE 0 is used).");
        ColumnReader x = new ColumnReader();
        x.clear();
        due("what was empty", x.about(4), 0);
        put(x, letters(1200));
        x.use(23);
        x.feed(0x61000000, 0, 0, 0, 0);
        due("cost ahead", x.cost(0), 9604);
        x.clear();
        due("what was full", x.about(4), 0);
        due("the make", x.about(3), 0);
        due("the tape", x.about(5), 20);
        due("cost behind", x.cost(0), 0);
        due("a head by none", x.reads(1), 4);
        due("rows", x.breadth(0), NONE);
        due("what is on the tape", x.add(1), 1);
        dueCell(x, 0, 0, "a");
        x.clear();
        put(x, letters(1200));
        due("full again", x.about(4), 1200);
    }

    private static void askingMakes() {
        sentence("reads: 0, else the FAULT (1 to 4). NONE: no such MAKE.");
        ColumnReader x = reader("'a'b\n", 4);
        due("of another make than the used one", x.reads(0), 0);
        due("of the used one", x.reads(4), 2);
        due("no such make", x.reads(24), NONE);
        due("no such make", x.reads(-1), NONE);
        sentence("faultAt: NONE: there is none, no such MAKE.");
        due("there is none", x.faultAt(0), NONE);
        due("there is one", x.faultAt(4), 3);
        due("no such make", x.faultAt(24), NONE);
        due("no such make", x.faultAt(-1), NONE);
        sentence("cost: NONE: the text isn't READ by it, no such MAKE.");
        due("read", x.cost(0), 14 + 8 + 10);
        due("not read", x.cost(4), NONE);
        due("no such make", x.cost(24), NONE);
        due("no such make", x.cost(-1), NONE);
        sentence("best: The MAKE with the least COST, of several the least.");
        due("all without quotes cost the same", reader("ab\n").best(), 0);
        due("the last make of all", reader("'x|y'|7\n'a|b'|25\n'c|d'|17\n'e|f'|31\n").best(), 23 - 1);
        due("the make 0 isn't read, make 1 neither", reader(",".repeat(12) + "\n").best(), 6);
        due("a tie of head and no head", reader("ab\n").cost(0) == reader("ab\n").cost(1), true);
        sentence("best: NONE: by none.");
        due("81 rows", reader("\n".repeat(81)).best(), NONE);
        due("80 rows", reader("\n".repeat(80)).best(), 0);
        ColumnReader y = reader("\n".repeat(81), 7);
        y.best();
        due("the used make stays", y.about(3), 7);
    }

    private static void using() {
        sentence("use: A MAKE is used from now on (for all that follows): true.");
        ColumnReader x = reader("a;b,c\n");
        due("the least", x.use(0), true);
        dueCell(x, 0, 0, "a;b");
        due("the highest", x.use(23), true);
        due("the make", x.about(3), 23);
        dueCell(x, 0, 0, "a;b,c");
        x.use(6);
        put(x, "d;e");
        dueCell(x, 1, 1, "e");
        due("asking of others changes nothing", x.cost(0) + x.reads(0) + x.faultAt(0) > 0, true);
        dueCell(x, 0, 0, "a");
        x.best();
        dueCell(x, 0, 0, "a");
        due("before there is any text", new ColumnReader().use(23), true);
        sentence("use: False, doing nothing: no such MAKE.");
        int[] none = {LEAST, -1, 24, MOST};
        for (int make : none) {
            due("use of " + make, x.use(make), false);
            due("the make", x.about(3), 6);
            dueCell(x, 1, 1, "e");
        }
        sentence("(If the text isn't READ by it, there are no rows, COLUMNS, cells.)");
        ColumnReader y = reader("25,1\n17,2\n3\n'31,3\n", 4);
        due("use", y.use(4), true);
        int[] about = {0, 0, 0, 4, 18, 0};
        for (int what = 0; what < 6; what++) {
            due("about " + what, y.about(what), about[what]);
        }
        due("odd", y.odd(0), NONE);
        due("breadth", y.breadth(0), NONE);
        due("size", y.size(0, 0), NONE);
        due("at", y.at(0, 0, 0), NONE);
        dueNoColumn(y, 0);
        due("value", y.value(0, 0), 0);
        due("back", y.back(0, 0, 0), NONE);
        put(y, "'");
        due("rows as soon as it is read", y.about(0), 4);
        due("and columns", y.form(0), 31);
    }

    private static void dueNoColumn(ColumnReader x, int column) {
        due("form of " + column, x.form(column), NONE);
        due("missing of " + column, x.missing(column), NONE);
        due("lacks of " + column, x.lacks(column), NONE);
        due("costOf of " + column, x.costOf(column, 0, 0), NONE);
        due("fits of " + column, x.fits(column), NONE);
        due("doubt of " + column, x.doubt(column), NONE);
        due("parts of " + column, x.parts(column, 0, 1, 0), NONE);
        due("key of " + column, x.key(column), NONE);
    }

    private static void askingRows() {
        sentence("about: NONE for others.");
        int[] others = {LEAST, -1, 6, 7, MOST};
        for (int what : others) {
            due("about " + what, reader("a,b\nc\n").about(what), NONE);
        }
        sentence("about: Rows, the HEAD too (0)");
        due("the head alone", reader("a\n", 1).about(0), 1);
        due("80 with a head", reader("a\n".repeat(80), 1).about(0), 80);
        ColumnReader x = reader("a,'b'\nc\n\nd,e,f\n", 5);
        sentence("odd: NONE: there is none.");
        due("the first", x.odd(0), 1);
        due("the last", x.odd(2), 3);
        int[] noOdd = {LEAST, LEAST + 1, -1, 3, MOST};
        for (int k : noOdd) {
            due("odd " + k, x.odd(k), NONE);
        }
        sentence("breadth: NONE: there is none such.");
        due("the first", x.breadth(0), 2);
        due("the last", x.breadth(3), 3);
        int[] noRow = {LEAST, -1, 4, 80, 81, MOST};
        for (int row : noRow) {
            due("breadth of " + row, x.breadth(row), NONE);
            due("size in " + row, x.size(row, 0), NONE);
            due("byte in " + row, x.at(row, 0, 0), NONE);
        }
        sentence("size: (as READ, without its QUOTES). NONE: there is none such.");
        due("without its quotes", x.size(0, 1), 1);
        due("of an odd row", x.size(3, 2), 1);
        due("empty", x.size(2, 0), 0);
        int[] noCell = {LEAST, -1, 3, 12, 13, MOST};
        for (int cell : noCell) {
            due("size of cell " + cell, x.size(3, cell), NONE);
            due("byte of cell " + cell, x.at(3, cell, 0), NONE);
        }
        due("a cell that is the next row's", x.size(0, 2), NONE);
        due("a cell that is the next row's", x.size(1, 1), NONE);
        due("a byte that is the next cell's", x.at(0, 0, 1), NONE);
        due("a byte that is the next row's", x.at(1, 0, 1), NONE);
        sentence("at: NONE: there is none such.");
        due("the first byte", x.at(0, 1, 0), 'b');
        int[] noByte = {LEAST, -1, 1, 1200, MOST};
        for (int k : noByte) {
            due("byte " + k, x.at(0, 1, k), NONE);
        }
        due("of an empty cell", x.at(2, 0, 0), NONE);
        due("of the last cell", x.at(3, 2, 0), 'f');
    }

    private static void askingColumns() {
        sentence("form, missing, lacks, fits, doubt, key: NONE: none such, no cells.");
        int[] none = {LEAST, -1, 2, 11, 12, 13, MOST};
        for (int column : none) {
            dueNoColumn(reader("25,1\n17,2\n1,2,3\n"), column);
        }
        dueNoColumn(reader(""), 0);
        dueNoColumn(reader("25\n", 1), 0);
        dueNoColumn(reader("25\n1,2\n", 1), 0);
        dueNoColumn(reader("25,17\n1\n", 1), 1);
        sentence("lacks: How many of its cells are MISSING.");
        due("none", reader("5\n7\n").lacks(0), 0);
        due("all but one", reader("5\n" + "NA\n".repeat(79)).lacks(0), 79);
        due("empty cells of a text", reader("abc\n\nd\n").lacks(0), 0);
        sentence("fits: How many FORMS (with any missing code that fits) fit a COLUMN.");
        due("one alone", reader("\n").fits(0), 1);
        due("with a code alone", reader("5\n-\n").fits(0), 1 + 3 + 1);
        due("a form with two codes is one", reader("AB\nNA\n").fits(0), 2);
        due("a digit", reader("0\n").fits(0), 6);
        sentence("doubt: The least FORM other than its own that fits it at its own COST. NONE: there is none");
        due("text and code", reader("1\n3\n").doubt(0), 31);
        due("8 and 9, the least of them", reader("251\n17\n").doubt(0), 8);
        due("9 alone", reader("-1\n-23\n-456\n-7\n").doubt(0), 8);
        due("one that costs more", reader("1234\n17\n").doubt(0), NONE);
        due("with a missing code", reader("251\nNA\n17\n").doubt(0), 8);
        due("the last of all days", reader("2020.01.02\n").doubt(0), NONE);
        sentence("key: Whether all cells of a COLUMN are unlike, and none is MISSING: 1, 0.");
        due("one cell", reader("5\n").key(0), 1);
        due("80 unlike", reader(unlike(80)).key(0), 1);
        due("the last like the first", reader(unlike(79) + "10\n").key(0), 0);
        due("the last two alike", reader(unlike(79) + "88\n").key(0), 0);
        due("two empty ones", reader("\n\n").key(0), 0);
        due("one a beginning of the other", reader("abc\nabcd\n").key(0), 1);
        due("one missing", reader("5\n6\n7\nNA\n").key(0), 0);
        due("like the head", reader("5\n5\n6\n", 1).key(0), 1);
        due("like a cell of an odd row", reader("5,1\n6,1\n5\n").key(0), 1);
    }

    private static String unlike(int n) {
        StringBuilder cells = new StringBuilder();
        for (int i = 0; i < n; i++) {
            cells.append(10 + i).append('\n');
        }
        return cells.toString();
    }

    private static void askingPairs() {
        ColumnReader x = reader("head\n5\nNA\n1234\n1,234\n", BARS + 1);
        sentence("costOf: NONE: it doesn't fit, or there is none such.");
        int[] noForm = {LEAST, -1, 32, 33, 63, MOST};
        String[] told = {"AB\n", "T\n", "5\n", "2020-01-01\n"};
        for (int form : noForm) {
            for (String cells : told) {
                due("costOf form " + form, reader(cells).costOf(0, form, 0), NONE);
            }
        }
        int[] noCode = {LEAST, -1, 5, 6, MOST};
        for (int m : noCode) {
            due("costOf code " + m, reader("5\nNA\n").costOf(0, 7, m), NONE);
        }
        due("the least form", x.costOf(0, 0, 0), 12 + 20 + 36 + 44);
        due("the highest form", reader("a\n").costOf(0, 31, 0), 14 + 2 + 5);
        due("it doesn't fit", x.costOf(0, 7, 3), NONE);
        sentence("parts: The first row (of all) by whose cell one of two FORMS with one missing code is told not to "
            + "fit a COLUMN, and the other one isn't.");
        due("behind the head", x.parts(0, 0, 22, 0), 1);
        due("the first of two", x.parts(0, 7, 8, 3), 3);
        due("the other one isn't", x.parts(0, 8, 7, 3), 3);
        due("the last row of 80", reader("5\n".repeat(79) + "1,234\n", BARS).parts(0, 7, 8, 0), 79);
        due("behind an odd row", reader("5\na|b\n1,234\n", BARS).parts(0, 7, 8, 0), 2);
        due("without code 4 no value is too high", reader("5\n10000\n").parts(0, 0, 7, 0), NONE);
        due("with code 4 it is", reader("5\n10000\n").parts(0, 0, 7, 4), 1);
        due("without code 4 a CODE begins with 9999", reader("9999\nAB\n").parts(0, 0, 31, 0), 1);
        due("with code 4 it begins behind it", reader("9999\nAB\n").parts(0, 0, 31, 4), NONE);
        sentence("parts: NONE: none such");
        due("both tell all", reader("5\n7\n").parts(0, 7, 8, 0), NONE);
        due("both tell none", reader("x y\nz\n").parts(0, 7, 8, 0), NONE);
        due("one form twice", x.parts(0, 7, 7, 0), NONE);
        due("all are missing", reader("NA\nNA\n").parts(0, 0, 7, 3), NONE);
        due("no cells", reader("5\n", 1).parts(0, 0, 22, 0), NONE);
        for (int form : noForm) {
            due("parts form " + form, x.parts(0, form, 22, 0), NONE);
            due("parts other " + form, x.parts(0, 22, form, 0), NONE);
        }
        sentence("parts: as costOf() for the code (any of 0 to 4 may be asked)");
        for (int m : noCode) {
            due("parts code " + m, x.parts(0, 0, 7, m), NONE);
        }
        int[] byCode = {2, 2, 2, 4, 2};
        for (int m = 0; m <= 4; m++) {
            due("parts code " + m, x.parts(0, 0, 7, m), byCode[m]);
            due("a code that the column hasn't " + m, reader("5\n1,234\n", BARS).parts(0, 0, 7, m), 1);
        }
        due("9999 of a day may be asked", reader("2020-01-01\n9999\n2020/01/01\n").parts(0, 28, 29, 4), 0);
        due("9999 of a day may be asked", reader("2020-01-01\n9999\n2020/01/01\n").parts(0, 0, 29, 4), 2);
    }

    private static void askingValues() {
        ColumnReader x = reader("12,yes\n25,no\n-17,yes\n9,no,1\n9999,no\n31,yes\n0,no\n", 1);
        sentence("value: (of a row that isn't the HEAD or ODD)");
        due("the form", x.form(0), 7);
        due("the first row", x.value(1, 0), 25);
        due("below 0", x.value(2, 0), -17);
        due("the last row", x.value(5, 0), 31);
        due("the value 0", x.value(6, 0), 0);
        due("flag 0", x.value(1, 1), 0);
        due("flag 1", x.value(5, 1), 1);
        due("a text's", reader("abc\n5\n").value(1, 0), 0);
        sentence("value: 0 of what isn't there, or is MISSING.");
        due("the head", x.value(0, 0), 0);
        due("odd", x.value(3, 0), 0);
        due("missing", x.missing(0), 4);
        due("missing", x.value(4, 0), 0);
        int[] noRow = {LEAST, -1, 7, 80, MOST};
        int[] noColumn = {LEAST, -1, 2, 12, MOST};
        for (int row : noRow) {
            due("row " + row, x.value(row, 0), 0);
        }
        for (int column : noColumn) {
            due("column " + column, x.value(5, column), 0);
            due("column " + column, x.value(3, column), 0);
        }
        due("no text", new ColumnReader().value(0, 0), 0);
        sentence("back: of MISSING by its code, else as it is");
        due("9999", back(x, 4, 0).equals("9999"), true);
        due("behind it", x.back(4, 0, 4), NONE);
        due("the empty cell", reader("25\n\n17\n31\n").back(1, 0, 0), NONE);
        due("-", back(reader("25\n-\n17\n"), 1, 0).equals("-"), true);
        due("NA", back(reader("25\nNA\n17\n"), 1, 0).equals("NA"), true);
        due("text", back(reader("a b\n\nc\n"), 0, 0).equals("a b"), true);
        due("a text's empty cell", reader("a b\n\nc\n").back(1, 0, 0), NONE);
        due("code", back(reader("007\n008\n"), 1, 0).equals("008"), true);
        due("without quotes", back(reader("'a''b'\n'c'\n", 4), 0, 0).equals("a'b"), true);
        sentence("back: NONE: there is none such, or as value().");
        due("the first byte", x.back(2, 0, 0), '-');
        due("the last byte", x.back(2, 0, 2), '7');
        int[] noByte = {LEAST, -1, 3, 1200, MOST};
        for (int k : noByte) {
            due("byte " + k, x.back(2, 0, k), NONE);
        }
        due("the head", x.back(0, 0, 0), NONE);
        due("odd", x.back(3, 0, 0), NONE);
        due("odd, behind the width", x.back(3, 2, 0), NONE);
        for (int row : noRow) {
            due("row " + row, x.back(row, 0, 0), NONE);
        }
        for (int column : noColumn) {
            due("column " + column, x.back(5, column, 0), NONE);
        }
        due("no text", new ColumnReader().back(0, 0, 0), NONE);
    }

    /** Every call that only asks, with every edge, in states from empty to full: none throws or changes anything. */
    private static void anyArgument() {
        sentence("(LANGUAGE.md) No call may ever throw or fail to end, for any arguments in any state");
        String[] texts = {"", "\n", "'", "5\nNA\n9999\n", letters(1200), "\n".repeat(1200), ",".repeat(1200),
            "'".repeat(1200), (",".repeat(11) + "\n").repeat(80), "12,'a''b'\n1\n7,x\n"};
        int[] edges = {LEAST, -2, -1, 0, 1, 2, 4, 5, 11, 12, 24, 31, 32, 79, 80, 1199, 1200, MOST};
        for (String text : texts) {
            for (int make = 0; make < 24; make++) {
                for (int a : edges) {
                    ColumnReader x = reader(text, make);
                    int[] ahead = marks(x);
                    askAll(x, a, edges);
                    int[] behind = marks(x);
                    for (int i = 0; i < ahead.length; i++) {
                        due("what only asks has changed " + i, behind[i], ahead[i]);
                    }
                }
            }
        }
    }

    private static int[] marks(ColumnReader x) {
        return new int[] {x.about(0), x.about(1), x.about(2), x.about(3), x.about(4), x.about(5), x.form(0),
            x.size(0, 0), x.fits(0), x.cost(0), x.best()};
    }

    private static void askAll(ColumnReader x, int a, int[] edges) {
        x.reads(a);
        x.faultAt(a);
        x.about(a);
        x.odd(a);
        x.breadth(a);
        x.form(a);
        x.missing(a);
        x.lacks(a);
        x.fits(a);
        x.doubt(a);
        x.key(a);
        for (int b : edges) {
            x.size(a, b);
            x.value(a, b);
            x.at(a, b, 0);
            x.at(b, 0, a);
            x.back(a, b, 0);
            x.back(b, 0, a);
            x.costOf(0, a, b);
            x.costOf(a, b, 1);
            x.parts(0, a, b, 3);
            x.parts(a, 7, 31, b);
        }
    }
}
