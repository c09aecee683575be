/** Numbers and texts edited by pictures, and edited numbers read back. */
public final class EditMoves {
    public static final int NONE = -1;

    private static final int TOO_LARGE = -1;
    private static final int NO_PICTURE = -2;
    private static final int LAST_CHARACTER = 126;
    private static final int NEVER_SIGN = 127;
    private static final int LARGEST_SCALE = 18;
    private static final String NEVER_CURRENCY = "*+-,./()";

    private final Line pictureLine;
    private final Line textLine;
    private final Picture shape;
    private final Editor editor;
    private long amount;
    private int decimals;
    private int currencySign;
    private boolean blankWhenZero;
    private boolean sizeAsked;
    private int lost;
    private long readBack;

    public EditMoves() {
        pictureLine = new Line();
        textLine = new Line();
        shape = new Picture();
        editor = new Editor();
        currencySign = '$';
    }

    public void picture(int c) {
        if (c == 0) {
            pictureLine.clear();
        } else {
            // What is no sign is not lost: it stands in the text, which is no picture then.
            pictureLine.add(c > 0 && c <= LAST_CHARACTER ? c : NEVER_SIGN);
        }
    }

    public int value(long v, int scale) {
        if (scale < 0 || scale > LARGEST_SCALE) {
            return 0;
        }
        amount = v;
        decimals = scale;
        return 1;
    }

    public void text(int c) {
        if (c >= ' ' && c <= LAST_CHARACTER) {
            textLine.add(c);
        } else {
            textLine.clear();
        }
    }

    public int edit() {
        editor.result.drop();
        lost = 0;
        shape.read(pictureLine, currencySign);
        if (shape.kind == Picture.NOTHING || shape.places > Result.MOST_PLACES) {
            return NO_PICTURE;
        }
        return shape.kind == Picture.OF_TEXT ? editLine() : editAmount();
    }

    public int at(int i) {
        return editor.result.character(i);
    }

    public int back() {
        if (editor.result.kind != Picture.OF_NUMBER) {
            return 0;
        }
        readBack = editor.result.wholeNumber();
        return 1;
    }

    public long number() {
        return readBack;
    }

    public int currency(int c, boolean after) {
        if (!mayBeCurrency(c)) {
            return NONE;
        }
        int before = currencySign;
        currencySign = c;
        return before;
    }

    public boolean zero(boolean blanks) {
        boolean before = blankWhenZero;
        blankWhenZero = blanks;
        return before;
    }

    public boolean size(boolean asked) {
        boolean before = sizeAsked;
        sizeAsked = asked;
        return before;
    }

    public int suppressed() {
        return editor.result.hiddenPlaces;
    }

    public int cut() {
        return lost;
    }

    public int told(int what) {
        shape.read(pictureLine, currencySign);
        switch (what) {
            case 0:
                return shape.kind;
            case 1:
                return shape.digitsAhead;
            case 2:
                return shape.digitsBehind;
            case 3:
                return shape.places;
            case 4:
                return shape.allSuppressed ? 1 : 0;
            default:
                return NONE;
        }
    }

    private int editLine() {
        lost = editor.writeLine(shape, textLine);
        return editor.result.length;
    }

    private int editAmount() {
        Digits digits = editor.digits;
        digits.bring(amount, decimals, shape.digitsAhead, shape.digitsBehind);
        lost = digits.lost;
        if (sizeAsked && digits.lostAhead) {
            return TOO_LARGE;
        }
        editor.writeAmount(shape, blankWhenZero);
        return editor.result.length;
    }

    private static boolean mayBeCurrency(int c) {
        if (c <= ' ' || c > LAST_CHARACTER || isDigit(c)) {
            return false;
        }
        int great = toGreat(c);
        return !(great >= 'A' && great <= 'Z') && NEVER_CURRENCY.indexOf((char) c) < 0;
    }

    private static boolean isDigit(int c) {
        return c >= '0' && c <= '9';
    }

    private static int toGreat(int c) {
        return c >= 'a' && c <= 'z' ? c - 'a' + 'A' : c;
    }

    /** Characters that came one by one; those beyond the limit are lost. */
    private static final class Line {
        static final int LIMIT = 60;
        static final int END = 0;

        private final int[] row;
        int length;

        Line() {
            row = new int[LIMIT];
        }

        void clear() {
            length = 0;
        }

        void add(int c) {
            if (length >= 0 && length < row.length) {
                row[length] = c;
                length++;
            }
        }

        int character(int i) {
            return i >= 0 && i < length && i < row.length ? row[i] : END;
        }
    }

    /** What a picture's text says: runs of one sign each, and what they are together. */
    private static final class Picture {
        static final int NOTHING = 0;
        static final int OF_NUMBER = 1;
        static final int OF_TEXT = 2;
        static final int NO_SIGN = 0;
        static final int CREDIT = 'C';
        static final int DEBIT = 'D';

        private static final String ONE_LETTER_SIGNS = "9Z*+-B0/,.VX";
        private static final int MOST_DIGITS = 18;

        private final int[] signs;
        private final int[] counts;
        private int cursor;
        int runs;
        int kind;
        int places;
        int digitsAhead;
        int digitsBehind;
        boolean allSuppressed;
        int stringSign;
        boolean floats;

        Picture() {
            signs = new int[Line.LIMIT];
            counts = new int[Line.LIMIT];
        }

        void read(Line line, int currency) {
            forget();
            boolean ofSigns = split(line, currency);
            if (ofSigns && isOfText()) {
                kind = OF_TEXT;
            } else if (ofSigns && isOfNumber(currency)) {
                kind = OF_NUMBER;
            } else {
                forget();
                return;
            }
            places = countPlaces();
        }

        int sign(int run) {
            return run >= 0 && run < runs && run < signs.length ? signs[run] : NO_SIGN;
        }

        int count(int run) {
            return run >= 0 && run < runs && run < counts.length ? counts[run] : 0;
        }

        /** Without the point, which ends the suppressing where these do not. */
        static boolean isInsertion(int sign) {
            return sign == 'B' || sign == '0' || sign == '/' || sign == ',';
        }

        static int width(int sign) {
            if (sign == 'V') {
                return 0;
            }
            return sign == CREDIT || sign == DEBIT ? 2 : 1;
        }

        private void forget() {
            cursor = 0;
            runs = 0;
            kind = NOTHING;
            places = 0;
            digitsAhead = 0;
            digitsBehind = 0;
            allSuppressed = false;
            stringSign = NO_SIGN;
            floats = false;
        }

        private boolean split(Line line, int currency) {
            for (int run = 0; run < signs.length && cursor < line.length; run++) {
                int sign = takeSign(line, currency);
                int count = takeCount(line);
                if (sign == NO_SIGN || count == 0) {
                    return false;
                }
                signs[run] = sign;
                counts[run] = count;
                runs = run + 1;
            }
            return runs > 0;
        }

        private int takeSign(Line line, int currency) {
            int c = line.character(cursor);
            int great = toGreat(c);
            int next = toGreat(line.character(cursor + 1));
            cursor++;
            if (c == currency || ONE_LETTER_SIGNS.indexOf((char) great) >= 0) {
                return great;
            }
            if (great == CREDIT && next == 'R' || great == DEBIT && next == 'B') {
                cursor++;
                return great;
            }
            return NO_SIGN;
        }

        /** 1 when no count stands there, 0 when what stands there is no count. */
        private int takeCount(Line line) {
            if (line.character(cursor) != '(') {
                return 1;
            }
            int first = line.character(cursor + 1);
            int second = line.character(cursor + 2);
            if (!isDigit(first)) {
                return 0;
            }
            if (second == ')') {
                cursor += 3;
                return first - '0';
            }
            if (!isDigit(second) || line.character(cursor + 3) != ')') {
                return 0;
            }
            cursor += 4;
            return (first - '0') * 10 + (second - '0');
        }

        private int countPlaces() {
            int sum = 0;
            for (int run = 0; run < runs; run++) {
                sum += count(run) * width(sign(run));
            }
            return sum;
        }

        private boolean isOfText() {
            boolean hasX = false;
            for (int run = 0; run < runs; run++) {
                int sign = sign(run);
                if (sign == 'X') {
                    hasX = true;
                } else if (sign == ',' || !isInsertion(sign)) {
                    return false;
                }
            }
            return hasX;
        }

        private boolean isOfNumber(int currency) {
            cursor = 0;
            int fixed = takeFixedSign();
            takeOne(currency);
            int stringAhead = takeString(fixed, currency);
            int ninesAhead = takeAll('9');
            int stringBehind = 0;
            int ninesBehind = 0;
            if (takeOne('.') || takeOne('V')) {
                stringBehind = ninesAhead == 0 && stringAhead > 0 ? takeAll(stringSign) : 0;
                ninesBehind = takeAll('9');
            }
            boolean signed = fixed != NO_SIGN || stringSign == '+' || stringSign == '-';
            if (!signed && !takeEnd()) {
                return false;
            }
            digitsAhead = stringAhead - (floats ? 1 : 0) + ninesAhead;
            digitsBehind = stringBehind + ninesBehind;
            allSuppressed = ninesAhead + ninesBehind == 0;
            int digits = digitsAhead + digitsBehind;
            return upcoming() == NO_SIGN && digits >= 1 && digits <= MOST_DIGITS;
        }

        private int takeFixedSign() {
            if (takeOne('+')) {
                return '+';
            }
            return takeOne('-') ? '-' : NO_SIGN;
        }

        /** A floating sign stands nowhere else, so one that is fixed already makes no string. */
        private int takeString(int fixed, int currency) {
            int sign = upcoming();
            boolean mayFloat = (sign == '+' || sign == '-' || sign == currency) && sign != fixed;
            if (sign != 'Z' && sign != '*' && !mayFloat) {
                return 0;
            }
            int mark = cursor;
            int count = takeAll(sign);
            if (mayFloat && count < 2) {
                cursor = mark;
                return 0;
            }
            stringSign = sign;
            floats = mayFloat;
            return count;
        }

        /** False when something stands behind CR or DB: there not even insertions may. */
        private boolean takeEnd() {
            if (takeOne('+') || takeOne('-')) {
                return true;
            }
            if (takeOne(CREDIT) || takeOne(DEBIT)) {
                int last = sign(runs - 1);
                return last == CREDIT || last == DEBIT;
            }
            return true;
        }

        private int upcoming() {
            while (cursor < runs && isInsertion(sign(cursor))) {
                cursor++;
            }
            return sign(cursor);
        }

        private boolean takeOne(int wanted) {
            int mark = cursor;
            if (takeAll(wanted) == 1) {
                return true;
            }
            cursor = mark;
            return false;
        }

        /** Insertions stand anywhere, so they part nothing and are passed over. */
        private int takeAll(int wanted) {
            int sum = 0;
            for (; cursor < runs && cursor < signs.length; cursor++) {
                if (signs[cursor] == wanted) {
                    sum += counts[cursor];
                } else if (!isInsertion(signs[cursor])) {
                    break;
                }
            }
            return sum;
        }
    }

    /** A number's digits as they came to the digits of a picture, by the point. */
    private static final class Digits {
        private static final int MOST_CAME = 18;
        private static final int MOST_OF_LONG = 19;

        private final int[] came;
        int lost;
        boolean lostAhead;
        boolean allZero;
        boolean negative;

        Digits() {
            came = new int[MOST_CAME];
        }

        void bring(long amount, int decimals, int ahead, int behind) {
            clear();
            long rest = amount;
            for (int power = 0; power < MOST_OF_LONG; power++) {
                // Taken from the value as it is, since the lowest long has no opposite.
                int digit = (int) (rest % 10);
                rest /= 10;
                if (digit != 0) {
                    bringOne(digit < 0 ? -digit : digit, ahead - 1 - (power - decimals), ahead + behind);
                }
            }
            negative = amount < 0 && !allZero;
        }

        int digit(int i) {
            return i >= 0 && i < came.length ? came[i] : 0;
        }

        private void clear() {
            for (int i = 0; i < came.length; i++) {
                came[i] = 0;
            }
            lost = 0;
            lostAhead = false;
            allZero = true;
            negative = false;
        }

        private void bringOne(int digit, int index, int end) {
            if (index >= 0 && index < end && index < came.length) {
                came[index] = digit;
                allZero = false;
                return;
            }
            lost++;
            if (index < 0) {
                lostAhead = true;
            }
        }
    }

    /** The places that editing gave. */
    private static final class Result {
        static final int MOST_PLACES = 200;

        private final int[] row;
        private final boolean[] shownDigit;
        int kind;
        int length;
        int hiddenPlaces;

        Result() {
            row = new int[MOST_PLACES];
            shownDigit = new boolean[MOST_PLACES];
        }

        void drop() {
            kind = Picture.NOTHING;
            length = 0;
            hiddenPlaces = 0;
        }

        void put(int c, boolean digit) {
            if (length >= 0 && length < row.length && length < shownDigit.length) {
                row[length] = c;
                shownDigit[length] = digit;
                length++;
            }
        }

        void hide(int fill) {
            put(fill, false);
            hiddenPlaces++;
        }

        void replaceLast(int c) {
            if (length > 0 && length <= row.length) {
                row[length - 1] = c;
            }
        }

        int character(int i) {
            return i >= 0 && i < length && i < row.length ? row[i] : NONE;
        }

        /** Digits that are not shown are zeros ahead of all others, so the shown ones suffice. */
        long wholeNumber() {
            long sum = 0;
            boolean negative = false;
            for (int i = 0; i < length && i < row.length && i < shownDigit.length; i++) {
                int c = row[i];
                if (shownDigit[i]) {
                    sum = sum * 10 + (c - '0');
                }
                negative = negative || c == '-' || c == Picture.CREDIT || c == Picture.DEBIT;
            }
            return negative ? -sum : sum;
        }
    }

    /** Goes through a picture sign by sign and writes the places of the result. */
    private static final class Editor {
        final Digits digits;
        final Result result;
        private int fill;
        private int nextDigit;
        private boolean begun;
        private boolean suppressing;

        Editor() {
            digits = new Digits();
            result = new Result();
        }

        /** How many characters of the line found no place. */
        int writeLine(Picture shape, Line line) {
            result.kind = Picture.OF_TEXT;
            int taken = 0;
            for (int run = 0; run < shape.runs; run++) {
                int sign = shape.sign(run);
                for (int k = 0; k < shape.count(run); k++) {
                    if (sign == 'X') {
                        result.put(taken < line.length ? line.character(taken) : ' ', false);
                        taken++;
                    } else {
                        result.put(sign == 'B' ? ' ' : sign, false);
                    }
                }
            }
            return taken < line.length ? line.length - taken : 0;
        }

        void writeAmount(Picture shape, boolean blankWhenZero) {
            result.kind = Picture.OF_NUMBER;
            nextDigit = 0;
            begun = false;
            suppressing = false;
            boolean stars = shape.stringSign == '*';
            fill = stars ? '*' : ' ';
            boolean hidden = digits.allZero && (shape.allSuppressed || blankWhenZero && !stars);
            for (int run = 0; run < shape.runs; run++) {
                int sign = shape.sign(run);
                for (int k = 0; k < shape.count(run); k++) {
                    if (hidden) {
                        hideSign(sign);
                    } else {
                        writeSign(shape, sign);
                    }
                }
            }
        }

        private void hideSign(int sign) {
            if (fill == '*' && sign == '.') {
                result.put('.', false);
                return;
            }
            for (int k = 0; k < Picture.width(sign); k++) {
                result.hide(fill);
            }
        }

        private void writeSign(Picture shape, int sign) {
            if (sign == shape.stringSign) {
                writeStringSign(shape);
            } else if (suppressing && Picture.isInsertion(sign)) {
                result.hide(fill);
            } else {
                endSuppressing(shape);
                writePlainSign(sign);
            }
        }

        private void writeStringSign(Picture shape) {
            if (!begun) {
                begun = true;
                suppressing = true;
                if (shape.floats) {
                    result.hide(fill);
                    return;
                }
            }
            int digit = takeDigit();
            if (suppressing && digit == 0) {
                result.hide(fill);
                return;
            }
            endSuppressing(shape);
            result.put('0' + digit, true);
        }

        private void endSuppressing(Picture shape) {
            if (suppressing && shape.floats) {
                result.replaceLast(signShown(shape.stringSign));
            }
            suppressing = false;
        }

        private void writePlainSign(int sign) {
            switch (sign) {
                case '9':
                    result.put('0' + takeDigit(), true);
                    break;
                case 'V':
                    break;
                case 'B':
                    result.put(' ', false);
                    break;
                case Picture.CREDIT:
                    writePair('C', 'R');
                    break;
                case Picture.DEBIT:
                    writePair('D', 'B');
                    break;
                default:
                    result.put(signShown(sign), false);
                    break;
            }
        }

        private void writePair(int first, int second) {
            result.put(digits.negative ? first : ' ', false);
            result.put(digits.negative ? second : ' ', false);
        }

        private int signShown(int sign) {
            if (sign == '+') {
                return digits.negative ? '-' : '+';
            }
            if (sign == '-') {
                return digits.negative ? '-' : ' ';
            }
            return sign;
        }

        private int takeDigit() {
            int digit = digits.digit(nextDigit);
            nextDigit++;
            return digit;
        }
    }
}
