import java.util.Arrays;

/** A reader of tables of unknown make; ../shared/DOC.md says what each call answers. */
public final class ColumnReader {
    public static final int NONE = -1;

    private static final int TOO_FEW = -2;
    private static final int UNKNOWN = -2;
    private static final int TEXT_LIMIT = 1200;
    private static final int TAPE_LIMIT = 400;
    private static final int FED = 20;
    private static final int MAKES = 24;

    private final int[] text = new int[TEXT_LIMIT];
    private final int[] tape = new int[TAPE_LIMIT];
    private final Cut cut = new Cut();
    private final Columns columns = new Columns(cut);
    /** The COST of each MAKE for the text as it is, or UNKNOWN: best() would else cut it 24 times a call. */
    private final int[] prices = new int[MAKES];
    private int textSize;
    private int tapeSize;
    private int used;
    private int cutBy;

    public ColumnReader() {
        cutBy = NONE;
        Arrays.fill(prices, UNKNOWN);
    }

    public int feed(int a, int b, int c, int d, int e) {
        if (tapeSize > TAPE_LIMIT - FED) {
            return NONE;
        }
        tapeNumber(a);
        tapeNumber(b);
        tapeNumber(c);
        tapeNumber(d);
        tapeNumber(e);
        return tapeSize;
    }

    public int add(int n) {
        if (n < 0 || n > tapeSize) {
            return TOO_FEW;
        }
        if (n > TEXT_LIMIT - textSize) {
            return NONE;
        }
        System.arraycopy(tape, 0, text, textSize, n);
        textSize += n;
        tapeSize = 0;
        forgetReadings();
        return textSize;
    }

    public void clear() {
        textSize = 0;
        used = 0;
        forgetReadings();
    }

    public int reads(int make) {
        if (!isMake(make)) {
            return NONE;
        }
        cutTextBy(make);
        return cut.fault;
    }

    public int faultAt(int make) {
        if (!isMake(make)) {
            return NONE;
        }
        cutTextBy(make);
        return cut.faultSpot;
    }

    public int cost(int make) {
        return isMake(make) ? priceOfMake(make) : NONE;
    }

    public int best() {
        int least = NONE;
        int leastPrice = 0;
        for (int make = 0; make < MAKES; make++) {
            int price = priceOfMake(make);
            if (price != NONE && (least == NONE || price < leastPrice)) {
                least = make;
                leastPrice = price;
            }
        }
        return least;
    }

    public boolean use(int make) {
        if (!isMake(make)) {
            return false;
        }
        used = make;
        return true;
    }

    public int about(int what) {
        cutTextBy(used);
        switch (what) {
            case 0:
                return cut.rows;
            case 1:
                return cut.width();
            case 2:
                return cut.oddRows();
            case 3:
                return used;
            case 4:
                return textSize;
            case 5:
                return tapeSize;
            default:
                return NONE;
        }
    }

    public int odd(int k) {
        cutTextBy(used);
        int left = k;
        for (int row = 0; row < cut.rows; row++) {
            if (cut.isOdd(row)) {
                if (left == 0) {
                    return row;
                }
                left--;
            }
        }
        return NONE;
    }

    public int breadth(int row) {
        cutTextBy(used);
        return cut.cellsOf(row);
    }

    public int size(int row, int cell) {
        cutTextBy(used);
        return cut.lengthOf(cut.cellIn(row, cell));
    }

    public int at(int row, int cell, int k) {
        cutTextBy(used);
        return cut.byteIn(cut.cellIn(row, cell), k);
    }

    public int form(int column) {
        return hasChosen(column) ? columns.formOf[column] : NONE;
    }

    public int missing(int column) {
        return hasChosen(column) ? columns.codeOf[column] : NONE;
    }

    public int lacks(int column) {
        return hasChosen(column) ? columns.countMissing(column, columns.codeOf[column]) : NONE;
    }

    public int costOf(int column, int form, int m) {
        if (!hasChosen(column) || !Columns.isForm(form) || !Columns.isCode(m)) {
            return NONE;
        }
        columns.survey(column, m);
        return columns.price(column, form, m);
    }

    public int fits(int column) {
        return hasChosen(column) ? Integer.bitCount(columns.fitting[column]) : NONE;
    }

    public int doubt(int column) {
        return hasChosen(column) ? columns.rivalOf(column) : NONE;
    }

    public int parts(int column, int form, int other, int m) {
        if (!hasChosen(column) || !Columns.isForm(form) || !Columns.isForm(other) || !Columns.isCode(m)) {
            return NONE;
        }
        columns.survey(column, m);
        return columns.partingRow(column, form, other, m);
    }

    public long value(int row, int column) {
        return hasChosen(column) ? columns.worthOf(row, column) : 0;
    }

    public int back(int row, int column, int k) {
        // A FORM tells a cell only if its value, written by it, gives these very bytes, and a
        // missing code is the bytes of its cell: so what is written is always the cell itself.
        return hasChosen(column) && cut.isInColumns(row) ? cut.byteIn(cut.cellIn(row, column), k) : NONE;
    }

    public int key(int column) {
        if (!hasChosen(column)) {
            return NONE;
        }
        return columns.countMissing(column, columns.codeOf[column]) == 0 && columns.allUnlike(column) ? 1 : 0;
    }

    private static boolean isMake(int make) {
        return make >= 0 && make < MAKES;
    }

    private void tapeNumber(int number) {
        for (int shift = 24; shift >= 0 && tapeSize < TAPE_LIMIT; shift -= 8) {
            tape[tapeSize] = number >>> shift & 255;
            tapeSize++;
        }
    }

    private void forgetReadings() {
        cutBy = NONE;
        Arrays.fill(prices, UNKNOWN);
    }

    private void cutTextBy(int make) {
        if (cutBy != make) {
            cut.cutText(text, textSize, make);
            columns.forget();
            cutBy = make;
        }
    }

    /** Whether the MAKE that is used has such a COLUMN with cells; its FORM stands in columns then. */
    private boolean hasChosen(int column) {
        cutTextBy(used);
        if (column < 0 || column >= cut.width()) {
            return false;
        }
        columns.choose(column);
        return columns.formOf[column] != NONE;
    }

    private int priceOfMake(int make) {
        if (prices[make] == UNKNOWN) {
            cutTextBy(make);
            int sum = cut.priceBesideColumns();
            for (int column = 0; column < cut.width(); column++) {
                columns.choose(column);
                sum += columns.priceOf[column];
            }
            prices[make] = cut.fault == 0 ? sum : NONE;
        }
        return prices[make];
    }

    /** A text as one MAKE cuts it into rows and cells; none of these if it isn't READ so. */
    private static final class Cut {
        static final int CELL_LIMIT = 12;
        private static final int ROW_LIMIT = 80;

        private static final char[] MARKS = {',', ';', '\t', '|'};
        private static final int ROW_END = 10;

        private static final int BETWEEN_ROWS = 0;
        private static final int CELL_BEGINS = 1;
        private static final int WITHIN_PLAIN = 2;
        private static final int WITHIN_QUOTES = 3;
        private static final int BEHIND_QUOTE = 4;

        /** The bytes of all cells as READ, one cell behind the other. */
        private final int[] held = new int[TEXT_LIMIT];
        private final int[] cellStart = new int[ROW_LIMIT * CELL_LIMIT + 1];
        private final int[] rowStart = new int[ROW_LIMIT + 1];
        private int heldSize;
        private int cells;
        int rows;
        int fault;
        int faultSpot;
        private int mark;
        private int quote;
        private boolean headed;
        private int phase;
        private int cellSpot;

        void cutText(int[] text, int length, int make) {
            begin(make);
            int end = Math.min(length, text.length);
            if (end > 0) {
                openCell(0, true);
            } else if (headed) {
                fail(4, 0);
            }
            for (int spot = 0; spot < end && fault == 0; spot++) {
                take(text[spot], spot, spot + 1 == end);
            }
            finish();
        }

        private void begin(int make) {
            int kind = make / 6;
            mark = kind >= 0 && kind < MARKS.length ? MARKS[kind] : NONE;
            int quotes = make / 2 % 3;
            quote = quotes == 1 ? '"' : quotes == 2 ? '\'' : NONE;
            headed = make % 2 == 1;
            heldSize = 0;
            cells = 0;
            rows = 0;
            fault = 0;
            faultSpot = NONE;
            phase = BETWEEN_ROWS;
        }

        private void take(int b, int spot, boolean last) {
            if (phase == WITHIN_QUOTES) {
                if (b == quote) {
                    phase = BEHIND_QUOTE;
                } else {
                    hold(b);
                }
            } else if (phase == BEHIND_QUOTE && b == quote) {
                phase = WITHIN_QUOTES;
                hold(b);
            } else if (b == mark) {
                openCell(spot + 1, false);
            } else if (b == ROW_END) {
                phase = BETWEEN_ROWS;
                if (!last) {
                    openCell(spot + 1, true);
                }
            } else if (phase == BEHIND_QUOTE) {
                fail(2, spot);
            } else if (phase == CELL_BEGINS && b == quote) {
                phase = WITHIN_QUOTES;
            } else {
                phase = WITHIN_PLAIN;
                hold(b);
            }
        }

        private void hold(int b) {
            if (heldSize < held.length) {
                held[heldSize] = b;
                heldSize++;
            }
        }

        private void openCell(int spot, boolean opensRow) {
            boolean full = opensRow ? rows >= ROW_LIMIT : rows < 1 || cells - rowStart[rows - 1] >= CELL_LIMIT;
            if (full) {
                fail(3, spot);
                return;
            }
            if (opensRow) {
                rowStart[rows] = cells;
                rows++;
            }
            cellStart[cells] = heldSize;
            cells++;
            cellSpot = spot;
            phase = CELL_BEGINS;
        }

        private void fail(int kind, int spot) {
            fault = kind;
            faultSpot = spot;
        }

        private void finish() {
            if (fault == 0 && phase == WITHIN_QUOTES) {
                fail(1, cellSpot);
            }
            if (fault != 0) {
                rows = 0;
                cells = 0;
                heldSize = 0;
            }
            rowStart[rows] = cells;
            cellStart[cells] = heldSize;
        }

        int width() {
            return rows > 0 ? rowStart[1] : 0;
        }

        int cellsOf(int row) {
            return row < 0 || row >= rows ? NONE : rowStart[row + 1] - rowStart[row];
        }

        boolean isOdd(int row) {
            return row > 0 && row < rows && rowStart[row + 1] - rowStart[row] != rowStart[1];
        }

        int oddRows() {
            int count = 0;
            for (int row = 0; row < rows; row++) {
                count += isOdd(row) ? 1 : 0;
            }
            return count;
        }

        /** Whether a row's cells belong to the COLUMNS: it isn't the HEAD and isn't ODD. */
        boolean isInColumns(int row) {
            return row >= (headed ? 1 : 0) && row < rows && !isOdd(row);
        }

        /** The number, of all cells, of a row's cell. */
        int cellIn(int row, int n) {
            if (row < 0 || row >= rows || n < 0 || n >= rowStart[row + 1] - rowStart[row]) {
                return NONE;
            }
            return rowStart[row] + n;
        }

        int lengthOf(int cell) {
            return cell < 0 || cell >= cells ? NONE : cellStart[cell + 1] - cellStart[cell];
        }

        int byteIn(int cell, int k) {
            if (cell < 0 || cell >= cells || k < 0 || k >= cellStart[cell + 1] - cellStart[cell]) {
                return NONE;
            }
            return held[cellStart[cell] + k];
        }

        /** What some digits of a cell say; NONE if one of these bytes is none. */
        int numberIn(int cell, int k, int count) {
            if (cell < 0 || cell >= cells || k < 0 || k > cellStart[cell + 1] - cellStart[cell] - count) {
                return NONE;
            }
            int number = 0;
            for (int i = 0; i < count; i++) {
                int b = held[cellStart[cell] + k + i];
                if (b < '0' || b > '9') {
                    return NONE;
                }
                number = number * 10 + b - '0';
            }
            return number;
        }

        boolean isWord(int cell, String word) {
            int length = word.length();
            if (cell < 0 || cell >= cells || cellStart[cell + 1] - cellStart[cell] != length) {
                return false;
            }
            for (int k = 0; k < length; k++) {
                if (held[cellStart[cell] + k] != word.charAt(k)) {
                    return false;
                }
            }
            return true;
        }

        boolean areAlike(int cell, int other) {
            int length = lengthOf(cell);
            if (length != lengthOf(other)) {
                return false;
            }
            for (int k = 0; k < length; k++) {
                if (byteIn(cell, k) != byteIn(other, k)) {
                    return false;
                }
            }
            return true;
        }

        /** The part of the MAKE's COST that QUOTES, the HEAD and ODD rows make. */
        int priceBesideColumns() {
            int sum = quote == NONE ? 0 : 3;
            if (headed) {
                sum += 4 * width() + 8 * bytesOf(0);
            }
            for (int row = 0; row < rows; row++) {
                if (isOdd(row)) {
                    sum += 30 + 8 * bytesOf(row);
                }
            }
            return sum;
        }

        private int bytesOf(int row) {
            return row < 0 || row >= rows ? 0 : cellStart[rowStart[row + 1]] - cellStart[rowStart[row]];
        }
    }

    /** Whether FORMS tell a cell, what its value is then, and what it costs. */
    private static final class Forms {
        static final int TEXT = 0;
        static final int LAST_FLAG = 6;
        static final int LAST_NUMBER = 21;
        static final int LAST_DAY = 30;
        static final int CODE = 31;

        private static final int FIRST_NUMBER = 7;
        private static final int FIRST_DECIMALS = 10;
        private static final int FIRST_DAY = 22;
        private static final int DIGIT_LIMIT = 9;
        private static final int BIG = 9999;
        private static final int CODE_LIMIT = 20;
        private static final int DAY_SIZE = 10;
        private static final char[] DAY_MARKS = {'/', '-', '.'};
        private static final int[] MONTH_DAYS = {31, 28, 31, 30, 31, 30, 31, 31, 30, 31, 30, 31};

        private static final int DIGIT = 256;
        private static final int CAPITAL = 257;
        private static final int SMALL = 258;

        private final Cut cut;
        /** The cell whose make a CODE takes. */
        private int first;
        /** Whether 9999 is a missing code, so that only NUMBERS below it are told. */
        private boolean capped;
        /** The value of the cell that was told last. */
        int worth;
        private int digits;

        Forms(Cut cut) {
            this.cut = cut;
        }

        void prepare(int firstCell, boolean cappedNumbers) {
            first = firstCell;
            capped = cappedNumbers;
        }

        static boolean isNumber(int form) {
            return form >= FIRST_NUMBER && form <= LAST_NUMBER;
        }

        /** Whether a FORM tells a cell, as prepare() set it out. */
        boolean tells(int form, int cell) {
            worth = 0;
            digits = 0;
            if (form == TEXT) {
                return true;
            }
            if (form <= LAST_FLAG) {
                return tellsFlag(form, cell);
            }
            if (form <= LAST_NUMBER) {
                return tellsNumber(form, cell);
            }
            if (form <= LAST_DAY) {
                return tellsDay(form, cell);
            }
            return tellsCode(cell);
        }

        private boolean tellsFlag(int form, int cell) {
            worth = cut.isWord(cell, yesOf(form)) ? 1 : 0;
            return worth == 1 || cut.isWord(cell, noOf(form));
        }

        private static String noOf(int form) {
            switch (form) {
                case 1:
                    return "0";
                case 2:
                    return "n";
                case 3:
                    return "N";
                case 4:
                    return "no";
                case 5:
                    return "false";
                default:
                    return "F";
            }
        }

        private static String yesOf(int form) {
            switch (form) {
                case 1:
                    return "1";
                case 2:
                    return "y";
                case 3:
                    return "Y";
                case 4:
                    return "yes";
                case 5:
                    return "true";
                default:
                    return "T";
            }
        }

        private static int decimalsOf(int form) {
            return form < FIRST_DECIMALS ? 0 : (form - FIRST_DECIMALS) / 4 + 1;
        }

        private static int pointOf(int form) {
            return (form - FIRST_DECIMALS) % 4 < 2 ? '.' : ',';
        }

        private static int thousandsOf(int form) {
            if (form < FIRST_DECIMALS) {
                return form == FIRST_NUMBER ? NONE : form == FIRST_NUMBER + 1 ? ',' : '.';
            }
            int kind = (form - FIRST_DECIMALS) % 4;
            return kind == 1 ? ',' : kind == 3 ? '.' : NONE;
        }

        private boolean tellsNumber(int form, int cell) {
            int decimals = decimalsOf(form);
            int size = cut.lengthOf(cell);
            int wholeEnd = decimals > 0 ? size - decimals - 1 : size;
            int begin = cut.byteIn(cell, 0) == '-' ? 1 : 0;
            int point = pointOf(form);
            int thousands = thousandsOf(form);
            if (wholeEnd <= begin || wholeEnd - begin > 1 && cut.byteIn(cell, begin) == '0') {
                return false;
            }
            for (int k = begin; k < size; k++) {
                int b = cut.byteIn(cell, k);
                int due = signDue(wholeEnd - k, point, thousands);
                if (due != NONE) {
                    if (b != due || k == begin) {
                        return false;
                    }
                } else if (b < '0' || b > '9' || digits == DIGIT_LIMIT) {
                    return false;
                } else {
                    worth = worth * 10 + b - '0';
                    digits++;
                }
            }
            if (begin == 1) {
                worth = -worth;
            }
            return (begin == 0 || worth != 0) && (!capped || worth < bigOf(decimals));
        }

        /** The sign that a NUMBER must have so many bytes ahead of where its whole part ends; NONE for a digit. */
        private static int signDue(int ahead, int point, int thousands) {
            if (ahead == 0) {
                return point;
            }
            // Three digits and their mark are four bytes.
            return ahead > 0 && ahead % 4 == 0 ? thousands : NONE;
        }

        private static int bigOf(int decimals) {
            int big = BIG;
            for (int i = 0; i < decimals; i++) {
                big *= 10;
            }
            return big;
        }

        private boolean tellsDay(int form, int cell) {
            if (cut.lengthOf(cell) != DAY_SIZE || form < FIRST_DAY) {
                return false;
            }
            int order = (form - FIRST_DAY) / 3;
            int between = DAY_MARKS[(form - FIRST_DAY) % 3];
            boolean yearFirst = order == 2;
            if (cut.byteIn(cell, yearFirst ? 4 : 2) != between || cut.byteIn(cell, yearFirst ? 7 : 5) != between) {
                return false;
            }
            int year = cut.numberIn(cell, yearFirst ? 0 : 6, 4);
            int month = cut.numberIn(cell, yearFirst ? 5 : order == 0 ? 3 : 0, 2);
            int day = cut.numberIn(cell, yearFirst ? 8 : order == 0 ? 0 : 3, 2);
            if (year < 1600 || year > 2999 || day < 1 || day > daysOf(year, month)) {
                return false;
            }
            worth = year * 10000 + month * 100 + day;
            return true;
        }

        private static int daysOf(int year, int month) {
            if (month < 1 || month > MONTH_DAYS.length) {
                return 0;
            }
            boolean leap = year % 4 == 0 && (year % 100 != 0 || year % 400 == 0);
            return month == 2 && leap ? 29 : MONTH_DAYS[month - 1];
        }

        private boolean tellsCode(int cell) {
            int length = cut.lengthOf(first);
            if (length < 1 || length > CODE_LIMIT || cut.lengthOf(cell) != length) {
                return false;
            }
            for (int k = 0; k < length; k++) {
                if (sortOf(cut.byteIn(cell, k)) != sortOf(cut.byteIn(first, k))) {
                    return false;
                }
            }
            return true;
        }

        private static int sortOf(int b) {
            if (b >= '0' && b <= '9') {
                return DIGIT;
            }
            if (b >= 'A' && b <= 'Z') {
                return CAPITAL;
            }
            return b >= 'a' && b <= 'z' ? SMALL : b;
        }

        /** The COST of a FORM itself, ahead of any cell. */
        int priceOfForm(int form) {
            if (form == TEXT) {
                return 0;
            }
            if (form <= LAST_FLAG) {
                return 12;
            }
            if (form <= LAST_NUMBER) {
                return 16;
            }
            return form <= LAST_DAY ? 20 : 14 + 2 * cut.lengthOf(first);
        }

        /** The COST of the cell that was told last, by the FORM that told it. */
        int priceOfCell(int form, int cell) {
            if (form == TEXT) {
                return 4 + 8 * cut.lengthOf(cell);
            }
            if (form <= LAST_FLAG) {
                return 1;
            }
            if (form <= LAST_NUMBER) {
                return 4 + 4 * digits;
            }
            return form <= LAST_DAY ? 16 : priceOfCode(cell);
        }

        private int priceOfCode(int cell) {
            int sum = 0;
            for (int k = 0; k < cut.lengthOf(cell); k++) {
                int sort = sortOf(cut.byteIn(cell, k));
                sum += sort == DIGIT ? 4 : sort == CAPITAL || sort == SMALL ? 5 : 0;
            }
            return sum;
        }
    }

    /** The COLUMNS of a Cut: what FORMS and missing codes fit them, and which are the cheapest. */
    private static final class Columns {
        private static final int CODES = 5;
        private static final int BIG_CODE = 4;

        final int[] formOf = new int[Cut.CELL_LIMIT];
        final int[] codeOf = new int[Cut.CELL_LIMIT];
        final int[] priceOf = new int[Cut.CELL_LIMIT];
        /** A bit for each FORM that fits a COLUMN with some missing code. */
        final int[] fitting = new int[Cut.CELL_LIMIT];
        /** A bit for each FORM that fits a COLUMN at its own COST. */
        private final int[] cheapest = new int[Cut.CELL_LIMIT];
        private final Cut cut;
        private final Forms forms;
        private int surveyedMissing;
        private int firstPresent;

        Columns(Cut cut) {
            this.cut = cut;
            forms = new Forms(cut);
        }

        static boolean isForm(int form) {
            return form >= Forms.TEXT && form <= Forms.CODE;
        }

        static boolean isCode(int m) {
            return m >= 0 && m < CODES;
        }

        void forget() {
            Arrays.fill(formOf, UNKNOWN);
        }

        void choose(int column) {
            if (column < 0 || column >= formOf.length || formOf[column] != UNKNOWN) {
                return;
            }
            formOf[column] = NONE;
            codeOf[column] = NONE;
            priceOf[column] = 0;
            fitting[column] = 0;
            cheapest[column] = 0;
            for (int m = 0; m < CODES; m++) {
                survey(column, m);
                for (int form = Forms.TEXT; form <= Forms.CODE; form++) {
                    int price = price(column, form, m);
                    if (price != NONE) {
                        weigh(column, form, m, price);
                    }
                }
            }
        }

        private void weigh(int column, int form, int m, int price) {
            fitting[column] |= 1 << form;
            boolean first = formOf[column] == NONE;
            if (!first && price > priceOf[column]) {
                return;
            }
            boolean cheaper = first || price < priceOf[column];
            cheapest[column] = (cheaper ? 0 : cheapest[column]) | 1 << form;
            // The codes come in their order, so a FORM at the same COST keeps its least code.
            if (cheaper || form < formOf[column]) {
                formOf[column] = form;
                codeOf[column] = m;
                priceOf[column] = price;
            }
        }

        /** Looks over a COLUMN for a missing code: what tells and prices its cells stands on what it finds. */
        void survey(int column, int m) {
            surveyedMissing = 0;
            firstPresent = NONE;
            for (int row = 0; row < cut.rows; row++) {
                if (cut.isInColumns(row)) {
                    int cell = cut.cellIn(row, column);
                    if (isMissing(cell, m)) {
                        surveyedMissing++;
                    } else if (firstPresent == NONE) {
                        firstPresent = cell;
                    }
                }
            }
            forms.prepare(firstPresent, m == BIG_CODE);
        }

        int countMissing(int column, int m) {
            survey(column, m);
            return surveyedMissing;
        }

        private boolean isMissing(int cell, int m) {
            switch (m) {
                case 1:
                    return cut.isWord(cell, "");
                case 2:
                    return cut.isWord(cell, "-");
                case 3:
                    return cut.isWord(cell, "NA");
                case BIG_CODE:
                    return cut.isWord(cell, "9999");
                default:
                    return false;
            }
        }

        /** The COST of a COLUMN by a FORM and the code that it was surveyed for; NONE if it doesn't fit. */
        int price(int column, int form, int m) {
            if (firstPresent == NONE || m > 0 && (surveyedMissing == 0 || form == Forms.TEXT)) {
                return NONE;
            }
            if (m == BIG_CODE && !Forms.isNumber(form)) {
                return NONE;
            }
            int sum = forms.priceOfForm(form) + (m > 0 ? 6 : 0);
            for (int row = 0; row < cut.rows; row++) {
                if (cut.isInColumns(row)) {
                    int cell = cut.cellIn(row, column);
                    if (isMissing(cell, m)) {
                        sum += 2;
                    } else if (forms.tells(form, cell)) {
                        sum += forms.priceOfCell(form, cell);
                    } else {
                        return NONE;
                    }
                }
            }
            return sum;
        }

        int rivalOf(int column) {
            if (column < 0 || column >= formOf.length) {
                return NONE;
            }
            for (int form = Forms.TEXT; form <= Forms.CODE; form++) {
                if (form != formOf[column] && (cheapest[column] >>> form & 1) == 1) {
                    return form;
                }
            }
            return NONE;
        }

        int partingRow(int column, int form, int other, int m) {
            for (int row = 0; row < cut.rows; row++) {
                if (cut.isInColumns(row)) {
                    int cell = cut.cellIn(row, column);
                    if (!isMissing(cell, m) && forms.tells(form, cell) != forms.tells(other, cell)) {
                        return row;
                    }
                }
            }
            return NONE;
        }

        int worthOf(int row, int column) {
            if (!cut.isInColumns(row) || column < 0 || column >= formOf.length) {
                return 0;
            }
            survey(column, codeOf[column]);
            int cell = cut.cellIn(row, column);
            return !isMissing(cell, codeOf[column]) && forms.tells(formOf[column], cell) ? forms.worth : 0;
        }

        boolean allUnlike(int column) {
            for (int row = 0; row < cut.rows; row++) {
                if (cut.isInColumns(row) && isRepeated(row, column)) {
                    return false;
                }
            }
            return true;
        }

        private boolean isRepeated(int row, int column) {
            int cell = cut.cellIn(row, column);
            for (int later = row + 1; later < cut.rows; later++) {
                if (cut.isInColumns(later) && cut.areAlike(cell, cut.cellIn(later, column))) {
                    return true;
                }
            }
            return false;
        }
    }
}
