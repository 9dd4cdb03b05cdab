/** For each promise of the document: ordinary inputs, the edges it names, and wrong inputs. */
public final class PromiseTest {
    private static final int NONE = ColumnReader.NONE;
    private static int wrong = 0;
    private static int promise = 0;

    public static void main(String[] args) {
        newObject();
        feed();
        add();
        clear();
        reads();
        faultAt();
        cost();
        best();
        use();
        about();
        odd();
        breadth();
        size();
        at();
        form();
        numbers();
        days();
        codes();
        missing();
        lacks();
        costOf();
        fits();
        doubt();
        parts();
        value();
        back();
        key();
        System.out.println(wrong == 0 ? "all promises hold" : wrong + " answers are not as due");
        if (wrong != 0) {
            System.exit(1);
        }
    }

    private static void due(String what, long got, long want) {
        if (got != want) {
            wrong++;
            System.out.println("promise " + promise + ": " + what + " answered " + got + ", due is " + want);
        }
    }

    private static void due(String what, boolean got, boolean want) {
        due(what, got ? 1 : 0, want ? 1 : 0);
    }

    private static ColumnReader reader(String text) {
        ColumnReader x = new ColumnReader();
        put(x, text);
        return x;
    }

    private static ColumnReader reader(String text, int make) {
        ColumnReader x = reader(text);
        x.use(make);
        return x;
    }

    private static void put(ColumnReader x, String text) {
        for (int from = 0; from < text.length(); from += 400) {
            int n = Math.min(400, text.length() - from);
            for (int k = from; k < from + n; k += 20) {
                x.feed(word(text, k), word(text, k + 4), word(text, k + 8), word(text, k + 12), word(text, k + 16));
            }
            x.add(n);
        }
    }

    private static int word(String text, int from) {
        int word = 0;
        for (int i = from; i < from + 4; i++) {
            word = word << 8 | (i < text.length() ? text.charAt(i) : 32);
        }
        return word;
    }

    private static void feedTimes(ColumnReader x, int times) {
        for (int i = 0; i < times; i++) {
            x.feed(0x61616161, 0x61616161, 0x61616161, 0x61616161, 0x61616161);
        }
    }

    private static String backOf(ColumnReader x, int row, int column) {
        StringBuilder written = new StringBuilder();
        for (int k = 0; k < 40; k++) {
            int b = x.back(row, column, k);
            if (b != NONE) {
                written.append((char) b);
            }
        }
        return written.toString();
    }

    private static void newObject() {
        promise = 1;
        ColumnReader x = new ColumnReader();
        due("bytes of the text", x.about(4), 0);
        due("bytes on the tape", x.about(5), 0);
        due("the make that is used", x.about(3), 0);
        due("NONE", ColumnReader.NONE, -1);
        ColumnReader other = new ColumnReader();
        put(other, "a");
        due("another object's text", x.about(4), 0);
    }

    private static void feed() {
        promise = 2;
        ColumnReader x = new ColumnReader();
        due("first feed", x.feed(0x61626364, 0xFF00807F, 0x65666768, 0x696A6B6C, 0x6D6E6F70), 20);
        x.add(20);
        due("highest first", x.at(0, 0, 0), 'a');
        due("lowest last", x.at(0, 0, 3), 'd');
        due("byte 255", x.at(0, 0, 4), 255);
        due("byte 0", x.at(0, 0, 5), 0);
        due("byte 128", x.at(0, 0, 6), 128);
        due("last byte", x.at(0, 0, 19), 'p');
        feedTimes(x, 19);
        due("up to the limit", x.feed(1, 2, 3, 4, 5), 400);
        due("beyond the limit", x.feed(1, 2, 3, 4, 5), NONE);
        due("the tape is as it was", x.about(5), 400);
    }

    private static void add() {
        promise = 3;
        ColumnReader x = new ColumnReader();
        due("nothing of nothing", x.add(0), 0);
        due("more than there are", x.add(1), -2);
        due("below 0", x.add(-1), -2);
        due("far below 0", x.add(Integer.MIN_VALUE), -2);
        due("far above", x.add(Integer.MAX_VALUE), -2);
        feedTimes(x, 2);
        due("one too many", x.add(41), -2);
        due("the tape is as it was", x.about(5), 40);
        due("some", x.add(7), 7);
        due("the tape is empty then", x.about(5), 0);
        feedTimes(x, 1);
        due("behind the text", x.add(3), 10);
        for (int i = 0; i < 2; i++) {
            feedTimes(x, 20);
            x.add(400);
        }
        feedTimes(x, 20);
        due("one byte above the limit", x.add(391), NONE);
        due("not enough and above the limit", x.add(401), -2);
        due("the tape is as it was", x.about(5), 400);
        due("just the limit", x.add(390), 1200);
        due("nothing behind the limit", x.add(0), 1200);
    }

    private static void clear() {
        promise = 4;
        ColumnReader x = reader("a;b\n1;2\n", 7);
        x.feed(1, 2, 3, 4, 5);
        due("cost ahead", x.cost(7) > 0, true);
        x.clear();
        due("bytes of the text", x.about(4), 0);
        due("make 0 is used", x.about(3), 0);
        due("rows", x.about(0), 0);
        due("the tape stays", x.about(5), 20);
        due("cost", x.cost(0), 0);
        due("column", x.form(0), NONE);
        x.add(0);
        put(x, "x\n");
        due("a text again", x.at(0, 0, 0), 'x');
    }

    private static void reads() {
        promise = 5;
        due("empty", reader("").reads(0), 0);
        due("empty with a head", reader("").reads(1), 4);
        due("a head alone", reader("a").reads(1), 0);
        due("an empty row is a row", reader("\n").reads(1), 0);
        due("no such make", reader("a").reads(24), NONE);
        due("no such make", reader("a").reads(-1), NONE);
        due("doesn't end", reader("a,\"b\n").reads(2), 1);
        due("a doubled one is no end", reader("\"a\"\"").reads(2), 1);
        due("three are an end short", reader("\"\"\"").reads(2), 1);
        due("four are a cell", reader("\"\"\"\"").reads(2), 0);
        due("ended by the text's end", reader("\"a\"").reads(2), 0);
        due("ended by a mark", reader("\"a\",b").reads(2), 0);
        due("ended by byte 10", reader("\"a\"\nb").reads(2), 0);
        due("something behind the end", reader("\"a\"b").reads(2), 2);
        due("another mark behind the end", reader("\"a\",b").reads(8), 2);
        due("the other quotes", reader("'a'b").reads(4), 2);
        due("not quotes of this make", reader("'a'b").reads(2), 0);
        due("a quote within a plain cell", reader("a\"b,c").reads(2), 0);
        due("80 rows", reader("\n".repeat(80)).reads(0), 0);
        due("80 rows, the last by the text's end", reader("\n".repeat(79) + "a").reads(0), 0);
        due("81 rows", reader("\n".repeat(81)).reads(0), 3);
        due("81 rows, the last by the text's end", reader("\n".repeat(80) + "a").reads(0), 3);
        due("12 cells", reader(",".repeat(11)).reads(0), 0);
        due("13 cells", reader(",".repeat(12)).reads(0), 3);
        due("13 cells but of another mark", reader(",".repeat(12)).reads(6), 0);
        due("a row too many found ahead of its quote", reader("\n".repeat(80) + "'a").reads(4), 3);
        due("a quote ahead of a row too many", reader("'a\n" + "\n".repeat(80)).reads(4), 1);
    }

    private static void faultAt() {
        promise = 6;
        due("none", reader("a").faultAt(0), NONE);
        due("no such make", reader("").faultAt(24), NONE);
        due("no such make", reader("").faultAt(-1), NONE);
        due("no row", reader("").faultAt(1), 0);
        due("doesn't end", reader("a,\"b\n").faultAt(2), 2);
        due("something behind the end", reader("x\n\"a\"b").faultAt(2), 5);
        due("the first along the text", reader("'a'b,'c").faultAt(4), 3);
        due("row 81", reader("\n".repeat(80) + "a").faultAt(0), 80);
        due("cell 13 at the text's end", reader(",".repeat(12)).faultAt(0), 12);
        due("cell 13", reader("a\n" + ",".repeat(14)).faultAt(0), 14);
        due("other makes of the same text", reader(",".repeat(12)).faultAt(18), NONE);
    }

    private static void cost() {
        promise = 7;
        due("empty", reader("").cost(0), 0);
        due("empty with quotes", reader("").cost(2), 3);
        due("empty with the other quotes", reader("").cost(4), 3);
        due("empty with a head", reader("").cost(1), NONE);
        due("no such make", reader("").cost(24), NONE);
        due("no such make", reader("").cost(-1), NONE);
        due("not read", reader("'a").cost(4), NONE);
        due("one text cell", reader("ab").cost(0), 20);
        due("a head alone", reader("ab").cost(1), 20);
        due("a head of two cells", reader("ab,c").cost(1), 32);
        due("a head's quoted cell as read", reader("\"a\"\"b\"").cost(3), 3 + 4 + 24);
        due("an odd row", reader("a\nb,cd\n").cost(0), 12 + 30 + 24);
        due("an odd row of an empty cell", reader("a,b\n\n").cost(0), 12 + 12 + 30);
        due("columns added", reader("1,ab\n").cost(0), 12 + 20);
        ColumnReader x = reader("a");
        due("ahead of more text", x.cost(0), 12);
        put(x, "b");
        due("behind more text", x.cost(0), 20);
    }

    private static void best() {
        promise = 8;
        due("empty", reader("").best(), 0);
        due("of several the least", reader("a").best(), 0);
        due("by none", reader("\n".repeat(81)).best(), NONE);
        due("a table with a head", reader("n|m\n1|5\n0|8\n1|7\n").best(), 19);
        due("tabs", reader("1\t25\n0\t31\n1\t17\n").best(), 12);
        due("quotes", reader("\"a;b\";5\n\"c\";12\n\"dd;e\";7\n").best(), 8);
        ColumnReader x = reader("a");
        x.use(5);
        due("whatever is used", x.best(), 0);
        due("which stays", x.about(3), 5);
    }

    private static void use() {
        promise = 9;
        ColumnReader x = reader("a,b;c\n");
        due("a make", x.use(6), true);
        due("cells by it", x.breadth(0), 2);
        due("no such make", x.use(24), false);
        due("no such make", x.use(-1), false);
        due("the make stays", x.about(3), 6);
        due("the last make", x.use(23), true);
        due("cells by it", x.breadth(0), 1);
        put(x, "d\n");
        due("used behind more text too", x.about(3), 23);
        x.clear();
        put(x, "'a,b\n");
        due("a make that doesn't read the text", x.use(4), true);
        due("rows", x.about(0), 0);
        due("width", x.about(1), 0);
        due("odd rows", x.about(2), 0);
        due("breadth", x.breadth(0), NONE);
        due("size", x.size(0, 0), NONE);
        due("form", x.form(0), NONE);
        due("costOf", x.costOf(0, 0, 0), NONE);
        due("parts", x.parts(0, 0, 1, 0), NONE);
    }

    private static void about() {
        promise = 10;
        ColumnReader x = reader("a,b\n1,2\n3\n4,5,6\n7,8", 1);
        x.feed(1, 2, 3, 4, 5);
        due("rows", x.about(0), 5);
        due("width", x.about(1), 2);
        due("odd rows", x.about(2), 2);
        due("the make", x.about(3), 1);
        due("bytes of the text", x.about(4), 19);
        due("bytes on the tape", x.about(5), 20);
        due("others", x.about(6), NONE);
        due("others", x.about(-1), NONE);
        due("no row behind the last byte 10", reader("a\n").about(0), 1);
        due("an empty row ahead of it", reader("a\n\n").about(0), 2);
        due("the first row is never odd", reader("a,b\nc\n").about(2), 1);
    }

    private static void odd() {
        promise = 11;
        ColumnReader x = reader("a,b\n1,2\n3\n4,5,6\n7,8", 1);
        due("first", x.odd(0), 2);
        due("second", x.odd(1), 3);
        due("third", x.odd(2), NONE);
        due("below 0", x.odd(-1), NONE);
        due("far below 0", x.odd(Integer.MIN_VALUE), NONE);
        due("none in no text", reader("").odd(0), NONE);
    }

    private static void breadth() {
        promise = 12;
        ColumnReader x = reader("a,b\n\n,,\n", 1);
        due("the head", x.breadth(0), 2);
        due("an empty row", x.breadth(1), 1);
        due("an odd row", x.breadth(2), 3);
        due("behind the last", x.breadth(3), NONE);
        due("below 0", x.breadth(-1), NONE);
        due("the last row has 12", reader(",".repeat(11)).breadth(0), 12);
    }

    private static void size() {
        promise = 13;
        ColumnReader x = reader("\"a\"\"b\",c\n,\"\"\n\"x,\ny\"\n", 2);
        due("a doubled quote is one", x.size(0, 0), 3);
        due("plain", x.size(0, 1), 1);
        due("empty", x.size(1, 0), 0);
        due("quoted empty", x.size(1, 1), 0);
        due("marks and bytes 10 within", x.size(2, 0), 4);
        due("no such cell", x.size(0, 2), NONE);
        due("no such cell", x.size(0, -1), NONE);
        due("no such cell of an odd row", x.size(2, 1), NONE);
        due("no such row", x.size(3, 0), NONE);
        due("no such row", x.size(-1, 0), NONE);
        due("by its quotes if there are none", reader("\"ab\"").size(0, 0), 4);
    }

    private static void at() {
        promise = 14;
        ColumnReader x = reader("'a''b';c'd\n'x;\ny'\n", 10);
        due("first", x.at(0, 0, 0), 'a');
        due("the doubled quote", x.at(0, 0, 1), '\'');
        due("behind it", x.at(0, 0, 2), 'b');
        due("behind the cell", x.at(0, 0, 3), NONE);
        due("a quote within a plain cell", x.at(0, 1, 1), '\'');
        due("a mark within", x.at(1, 0, 1), ';');
        due("byte 10 within", x.at(1, 0, 2), 10);
        due("below 0", x.at(0, 0, -1), NONE);
        due("no such cell", x.at(0, 2, 0), NONE);
        due("no such row", x.at(2, 0, 0), NONE);
    }

    private static void dueForm(String cells, int want) {
        due("form of " + cells.replace('\n', ' '), reader(cells, 18).form(0), want);
    }

    private static void form() {
        promise = 15;
        due("no such column", reader("a").form(1), NONE);
        due("no such column", reader("a").form(-1), NONE);
        due("no cells", reader("a\n", 1).form(0), NONE);
        due("no cells but odd ones", reader("a,b\nc\n", 1).form(0), NONE);
        dueForm("hello\nyou\n", 0);
        dueForm("0\n1\n1\n0\n", 1);
        dueForm("n\ny\ny\n", 2);
        dueForm("N\nY\nY\n", 3);
        dueForm("no\nyes\n", 4);
        dueForm("false\ntrue\n", 5);
        dueForm("F\nT\nT\n", 6);
        dueForm("N\ny\nY\n", 0);
        dueForm("AB12\nCD34\nXY99\n", 31);
    }

    private static void numbers() {
        String[] samples = {"1234567", "1,234,567", "1.234.567", "1234567.5", "1,234,567.5", "1234567,5",
            "1.234.567,5", "1234567.25", "1,234,567.25", "1234567,25", "1.234.567,25", "123456.125",
            "123,456.125", "123456,125", "123.456,125"};
        for (int i = 0; i < samples.length; i++) {
            ColumnReader x = reader(samples[i] + "\n", 18);
            for (int form = 7; form <= 21; form++) {
                due(samples[i] + " by " + form, x.costOf(0, form, 0) != NONE, form == 7 + i);
            }
        }
        String[] none = {"", "-", "01", "-0", "00", "+1", "1,23", "12,34", ",123", "1234,567", "1,2345", "1 2",
            "1,,234", "1234567890", "1,234,567,890", "-,123", "--1", "1-", "0,123,456"};
        for (String cell : none) {
            ColumnReader x = reader(cell + "\nx\n" + cell + "\n", 18);
            for (int form = 7; form <= 9; form++) {
                due(cell + " is no whole number by " + form, x.parts(0, 0, form, 0), 0);
            }
        }
        String[] noDecimals = {".5", "-.5", "00.5", "-0.0", "0.", "5", "1.234.5", "123456789.0", "5.05", "0.5-"};
        for (String cell : noDecimals) {
            due(cell + " by 10", reader(cell + "\n").costOf(0, 10, 0), NONE);
        }
        due("0.0 by 10", reader("0.0\n").costOf(0, 10, 0), 16 + 4 + 8);
        due("-0.5 by 10", reader("-0.5\n").costOf(0, 10, 0), 16 + 4 + 8);
        due("12345678.9 by 10", reader("12345678.9\n").costOf(0, 10, 0), 16 + 4 + 36);
        due("0 by 8", reader("0\n").costOf(0, 8, 0), 16 + 4 + 4);
        due("-999 by 8", reader("-999\n").costOf(0, 8, 0), 16 + 4 + 12);
        due("123456789 by 7", reader("123456789\n").costOf(0, 7, 0), 16 + 4 + 36);
    }

    private static void days() {
        String[] samples = {"31/01/2020", "31-01-2020", "31.01.2020", "01/31/2020", "01-31-2020", "01.31.2020",
            "2020/01/31", "2020-01-31", "2020.01.31"};
        for (int i = 0; i < samples.length; i++) {
            ColumnReader x = reader(samples[i] + "\n");
            for (int form = 22; form <= 30; form++) {
                due(samples[i] + " by " + form, x.costOf(0, form, 0), form == 22 + i ? 36 : NONE);
            }
            due(samples[i], x.value(0, 0), 20200131);
        }
        String[] no = {"2021-02-29", "1900-02-29", "2100-02-29", "1599-12-31", "3000-01-01", "2020-00-10",
            "2020-13-01", "2020-01-00", "2020-04-31", "2020-1-01", "2020/01-01", "2020-01-011", "020-01-01",
            "2020-a1-01", "2020-0:-01", "202/-01-01", "2020-01-3/", "2020-02-30"};
        for (String day : no) {
            due(day + " is none", reader(day + "\n").costOf(0, 29, 0), NONE);
        }
        int[] lengths = {31, 28, 31, 30, 31, 30, 31, 31, 30, 31, 30, 31};
        for (int month = 1; month <= 12; month++) {
            String ahead = "2021-" + (month < 10 ? "0" : "") + month + "-";
            due("last of month " + month, reader(ahead + lengths[month - 1] + "\n").costOf(0, 29, 0), 36);
            due("behind month " + month, reader(ahead + (lengths[month - 1] + 1) + "\n").costOf(0, 29, 0), NONE);
        }
        String[] yes = {"2020-02-29", "2000-02-29", "1600-02-29", "1600-01-01", "2999-12-31", "2021-02-28"};
        for (String day : yes) {
            due(day + " is one", reader(day + "\n").costOf(0, 29, 0), 36);
        }
    }

    private static void codes() {
        due("each of its sort", reader("aB1-\nzC9-\n").costOf(0, 31, 0), 14 + 8 + 28);
        due("another byte", reader("aB1-\nzC9+\n").costOf(0, 31, 0), NONE);
        due("a capital for a small one", reader("aB\nAB\n").costOf(0, 31, 0), NONE);
        due("a longer one", reader("aB\naBc\n").costOf(0, 31, 0), NONE);
        due("20 bytes", reader("a".repeat(20)).costOf(0, 31, 0), 14 + 40 + 100);
        due("21 bytes", reader("a".repeat(21)).costOf(0, 31, 0), NONE);
        due("no bytes", reader("\n").costOf(0, 31, 0), NONE);
        due("the first that isn't missing", reader("NA\n1\n2\n").costOf(0, 31, 3), 14 + 2 + 6 + 2 + 8);
        due("the signs beside digits and letters", reader("/:@[`{\n").costOf(0, 31, 0), 14 + 12);
        due("digits and letters at their ends", reader("09AZaz\n").costOf(0, 31, 0), 14 + 12 + 28);
    }

    private static void missing() {
        promise = 16;
        due("none", reader("25\n17\n").missing(0), 0);
        due("empty", reader("25\n\n17\n31\n").missing(0), 1);
        due("-", reader("25\n-\n17\n").missing(0), 2);
        due("NA", reader("25\nNA\n17\n").missing(0), 3);
        due("9999", reader("25\n9999\n17\n").missing(0), 4);
        due("text has none", reader("hello\n\nyou there\n").missing(0), 0);
        due("no such column", reader("25\n").missing(1), NONE);
        due("no such column", reader("25\n").missing(-1), NONE);
        due("no cells", reader("25\n", 1).missing(0), NONE);
        due("just that", reader("25\nNAN\n").missing(0), 0);
    }

    private static void lacks() {
        promise = 17;
        due("none", reader("25\n17\n").lacks(0), 0);
        due("two", reader("25\nNA\n17\nNA\n").lacks(0), 2);
        due("not in odd rows", reader("25,1\nNA,1\n17,1\nNA\n").lacks(0), 1);
        due("not in the head", reader("NA\nNA\n17\n", 1).lacks(0), 1);
        due("empty cells of a text aren't", reader("hello\n\nyou there\n").lacks(0), 0);
        due("no such column", reader("25\n").lacks(1), NONE);
        due("no such column", reader("25\n").lacks(-1), NONE);
        due("no cells", reader("25\n", 1).lacks(0), NONE);
    }

    private static void costOf() {
        promise = 18;
        ColumnReader x = reader("1\n\n0\n");
        due("text", x.costOf(0, 0, 0), 28);
        due("text with a code", x.costOf(0, 0, 1), NONE);
        due("flag", x.costOf(0, 1, 1), 12 + 6 + 1 + 2 + 1);
        due("flag without the code", x.costOf(0, 1, 0), NONE);
        due("number", x.costOf(0, 7, 1), 16 + 6 + 8 + 2 + 8);
        due("code", x.costOf(0, 31, 1), 14 + 2 + 6 + 4 + 2 + 4);
        due("no cell that is missing", x.costOf(0, 7, 2), NONE);
        due("no such form", x.costOf(0, 32, 0), NONE);
        due("no such form", x.costOf(0, -1, 0), NONE);
        due("no such code", x.costOf(0, 7, 5), NONE);
        due("no such code", x.costOf(0, 7, -1), NONE);
        due("no such column", x.costOf(1, 0, 0), NONE);
        due("no such column", x.costOf(-1, 0, 0), NONE);
        due("no cells", reader("1\n", 1).costOf(0, 0, 0), NONE);
        due("all missing", reader("NA\nNA\n").costOf(0, 31, 3), NONE);
        due("day with a code", reader("2020-01-31\n-\n").costOf(0, 29, 2), 20 + 6 + 16 + 2);
        due("9999 of a day", reader("2020-01-31\n9999\n").costOf(0, 29, 4), NONE);
        due("9999 of a code", reader("123\n9999\n").costOf(0, 31, 4), NONE);
        due("9999 of a flag", reader("1\n9999\n").costOf(0, 1, 4), NONE);
        due("9999 and less", reader("9998\n9999\n").costOf(0, 7, 4), 16 + 6 + 20 + 2);
        due("9999 and more", reader("10000\n9999\n").costOf(0, 7, 4), NONE);
        due("9999 as the value", reader("9,999\n9999\n", 6).costOf(0, 8, 4), NONE);
        due("9999 and far below 0", reader("-123456\n9999\n").costOf(0, 7, 4), 16 + 6 + 28 + 2);
        due("9999 with a decimal, below", reader("9998.9\n9999\n").costOf(0, 10, 4), 16 + 6 + 24 + 2);
        due("9999 with a decimal, not below", reader("9999.0\n9999\n").costOf(0, 10, 4), NONE);
        due("9999 with three, below", reader("9998,999\n9999\n", 6).costOf(0, 20, 4), 16 + 6 + 32 + 2);
        due("9999 with three, not below", reader("9999,000\n9999\n", 6).costOf(0, 20, 4), NONE);
    }

    private static void fits() {
        promise = 19;
        due("a text alone", reader("hello\nyou\n").fits(0), 1);
        due("text, flag, three numbers, code", reader("1\n0\n").fits(0), 6);
        due("two orders of days", reader("01/02/2020\n").fits(0), 4);
        due("a form counts once, whatever its codes", reader("25\n9999\n").fits(0), 4);
        due("no such column", reader("1\n").fits(1), NONE);
        due("no such column", reader("1\n").fits(-1), NONE);
        due("no cells", reader("1\n", 1).fits(0), NONE);
    }

    private static void doubt() {
        promise = 20;
        due("day or month first", reader("01/02/2020\n03/04/2020\n").doubt(0), 25);
        due("told by a day above 12", reader("01/02/2020\n13/04/2020\n").doubt(0), NONE);
        due("no thousands yet", reader("250\n17\n").doubt(0), 8);
        due("thousands of one sign", reader("12345678\n1\n", 18).doubt(0), NONE);
        due("a text", reader("hello\nyou\n").doubt(0), NONE);
        due("another cost is no doubt", reader("1\n0\n1\n1\n").doubt(0), NONE);
        due("no such column", reader("1\n").doubt(1), NONE);
        due("no such column", reader("1\n").doubt(-1), NONE);
        due("no cells", reader("1\n", 1).doubt(0), NONE);
    }

    private static void parts() {
        promise = 21;
        ColumnReader x = reader("day,n\n01/02/2020,5\nodd\n03/04/2020,NA\n25/12/2020,10000\nNA,9999\n", 1);
        due("the row of all rows", x.parts(0, 22, 25, 0), 4);
        due("the other way round", x.parts(0, 25, 22, 0), 4);
        due("the same form twice", x.parts(0, 22, 22, 0), NONE);
        due("a cell that isn't missing", x.parts(0, 0, 22, 0), 5);
        due("a cell that is missing", x.parts(0, 0, 22, 3), NONE);
        due("both not to fit by one cell", x.parts(0, 22, 31, 0), NONE);
        due("text and a code may be asked", x.parts(1, 0, 7, 3), NONE);
        due("a cell that is missing by another code", x.parts(1, 0, 7, 4), 3);
        due("a value not below 9999", reader("5\n10000\n9999\n").parts(0, 0, 7, 4), 1);
        due("below 9999 times 10 to the d", reader("5.0\n9999.0\n9999\n").parts(0, 0, 10, 4), 1);
        due("9999 itself is missing", reader("9999\n5\n").parts(0, 0, 10, 4), 1);
        due("no such form", x.parts(0, 32, 0, 0), NONE);
        due("no such form", x.parts(0, -1, 0, 0), NONE);
        due("no such other", x.parts(0, 0, 32, 0), NONE);
        due("no such other", x.parts(0, 0, -1, 0), NONE);
        due("no such code", x.parts(0, 0, 22, 5), NONE);
        due("no such code", x.parts(0, 0, 22, -1), NONE);
        due("no such column", x.parts(2, 0, 22, 0), NONE);
        due("no such column", x.parts(-1, 0, 22, 0), NONE);
        due("no cells", reader("1\n", 1).parts(0, 0, 22, 0), NONE);
    }

    private static void value() {
        promise = 22;
        ColumnReader x = reader("yes;-1.234,5;31.12.1999;word\nno;0,0;01.01.2000;NA\nodd\n"
            + "no;NA;02.01.2000;x\nyes;12,5;03.01.2000;NA\n", 6);
        due("flag", x.value(0, 0), 1);
        due("flag", x.value(1, 0), 0);
        due("number", x.value(0, 1), -12345);
        due("number 0", x.value(1, 1), 0);
        due("number", x.value(4, 1), 125);
        due("missing", x.value(3, 1), 0);
        due("day", x.value(0, 2), 19991231);
        due("text", x.value(0, 3), 0);
        due("an odd row", x.value(2, 0), 0);
        due("no such column", x.value(0, 4), 0);
        due("no such column", x.value(0, -1), 0);
        due("no such row", x.value(5, 0), 0);
        due("no such row", x.value(-1, 0), 0);
        due("the head", reader("12345\n23456\n34567\n", 1).value(0, 0), 0);
        due("behind the head", reader("12345\n23456\n34567\n", 1).form(0), 7);
        due("nine digits", reader("-999999999\n-1\n").value(0, 0), -999999999);
        due("a code", reader("AB12\nCD34\nXY99\n").value(0, 0), 0);
    }

    private static void dueBack(String cells, int make) {
        ColumnReader x = reader(cells, make);
        String[] rows = cells.split("\n", -1);
        for (int row = 0; row + 1 < rows.length; row++) {
            due("back of " + rows[row] + " in " + cells.replace('\n', ' '), backOf(x, row, 0).equals(rows[row]), true);
        }
    }

    private static void back() {
        promise = 23;
        dueBack("0\n1\n1\n", 0);
        dueBack("no\nyes\nNA\n", 0);
        dueBack("false\n\ntrue\n", 0);
        dueBack("-1,234,567.05\n0.00\n-0.07\n12.30\n", 6);
        dueBack("1.000,125\n-\n-999,000\n", 6);
        dueBack("123.456\n1\n9.999\n", 6);
        dueBack("12345678\n9999\n-7\n", 6);
        dueBack("31.01.2020\n01.12.1600\n", 0);
        dueBack("2020/01/31\nNA\n2999/12/31\n", 0);
        dueBack("01-31-2020\n12-01-1999\n", 0);
        dueBack("AB-12\nXY-00\n\n", 0);
        dueBack("hello there\n\nyou\n", 0);
        ColumnReader x = reader("ab,c\n1,2\n3\n", 1);
        due("the head", x.back(0, 0, 0), NONE);
        due("a cell", x.back(1, 0, 0), '1');
        due("behind a cell", x.back(1, 0, 1), NONE);
        due("below 0", x.back(1, 0, -1), NONE);
        due("an odd row", x.back(2, 0, 0), NONE);
        due("no such row", x.back(3, 0, 0), NONE);
        due("no such row", x.back(-1, 0, 0), NONE);
        due("no such column", x.back(1, 2, 0), NONE);
        due("no such column", x.back(1, -1, 0), NONE);
    }

    private static void key() {
        promise = 24;
        due("all unlike", reader("25\n17\n171\n").key(0), 1);
        due("two alike", reader("25\n17\n25\n").key(0), 0);
        due("one cell", reader("25\n").key(0), 1);
        due("one is missing", reader("25\nNA\n17\n").key(0), 0);
        due("not the head", reader("25\n17\n25\n", 1).key(0), 1);
        due("not odd rows", reader("25,1\n17,1\n25\n").key(0), 1);
        due("an empty cell of a text", reader("hello\n\nyou there\n").key(0), 1);
        due("two empty cells of a text", reader("hello\n\n\nyou there\n").key(0), 0);
        due("no such column", reader("25\n").key(1), NONE);
        due("no such column", reader("25\n").key(-1), NONE);
        due("no cells", reader("25\n", 1).key(0), NONE);
    }
}
