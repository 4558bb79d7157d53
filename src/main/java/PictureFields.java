import java.util.NoSuchElementException;

/** Up to eight fields, each with a picture that says how numbers or texts stand in its bytes. */
public final class PictureFields {
    private static final int NUMBER = 0;
    private static final int TEXT = 1;
    private static final int EDITED = 2;

    private static final int MOST_FIELDS = 8;
    private static final int MOST_TYPED = 24;
    private static final int MOST_SYMBOLS = 24;
    private static final int MOST_DIGITS = 12;
    private static final int MOST_SCALE = 6;
    private static final int MOST_BYTE = 255;

    // CR and DB count as one symbol but fill two bytes, and only one of them can stand in a picture.
    private static final int MOST_BYTES = 25;

    private static final int NONE = -1;

    // Every power of ten that a long can hold: no digit of a number stands higher.
    private static final long[] POWERS = {
        1L, 10L, 100L, 1000L, 10000L, 100000L, 1000000L, 10000000L, 100000000L, 1000000000L,
        10000000000L, 100000000000L, 1000000000000L, 10000000000000L, 100000000000000L,
        1000000000000000L, 10000000000000000L, 100000000000000000L, 1000000000000000000L
    };

    private final int[] typed;
    private int typedCount;
    private final Symbols symbols;

    // Each place has a field of every kind from the start, so that declaring makes no objects.
    private final NumberField[] numbers;
    private final TextField[] texts;
    private final EditedField[] editeds;
    private final Field[] declared;
    private int declaredCount;

    public PictureFields() {
        typed = new int[MOST_TYPED];
        typedCount = 0;
        symbols = new Symbols();
        numbers = new NumberField[MOST_FIELDS];
        texts = new TextField[MOST_FIELDS];
        editeds = new EditedField[MOST_FIELDS];
        declared = new Field[MOST_FIELDS];
        declaredCount = 0;
        for (int k = 0; k < MOST_FIELDS; k++) {
            numbers[k] = new NumberField();
            texts[k] = new TextField();
            editeds[k] = new EditedField();
        }
    }

    public boolean type(int c) {
        if (typedCount >= MOST_TYPED) {
            return false;
        }
        typed[typedCount] = c;
        typedCount++;
        return true;
    }

    public int declare(int usage) throws IllegalStateException, IllegalArgumentException {
        if (declaredCount >= MOST_FIELDS) {
            throw new IllegalStateException("there are eight fields");
        }
        boolean expanded = symbols.expand(typed, typedCount);
        typedCount = 0;
        Field field = expanded ? fittingField(declaredCount, usage) : null;
        if (field == null) {
            throw new IllegalArgumentException("no picture, or no such usage of it");
        }
        field.empty();
        declared[declaredCount] = field;
        declaredCount++;
        return declaredCount - 1;
    }

    public void clear() {
        declaredCount = 0;
    }

    public int fields() {
        return declaredCount;
    }

    public int look(int field, int what) throws NoSuchElementException, IllegalArgumentException {
        Field seen = existing(field);
        switch (what) {
            case 0:
                return seen.kind();
            case 1:
                return seen.size;
            case 2:
                return seen.before;
            case 3:
                return seen.behind;
            case 4:
                return seen.signed ? 1 : 0;
            default:
                throw new IllegalArgumentException("no such what");
        }
    }

    public int get(int field, int k) throws NoSuchElementException {
        Field seen = existing(field);
        if (!seen.hasByte(k)) {
            throw new NoSuchElementException("no such byte");
        }
        return seen.bytes[k];
    }

    public void set(int field, int k, int v) throws NoSuchElementException, IllegalArgumentException {
        Field changed = existing(field);
        if (!changed.hasByte(k)) {
            throw new NoSuchElementException("no such byte");
        }
        if (v < 0 || v > MOST_BYTE) {
            throw new IllegalArgumentException("no byte");
        }
        changed.bytes[k] = v;
    }

    public void put(int field, long v, int scale)
            throws NoSuchElementException, IllegalArgumentException, UnsupportedOperationException {
        Field changed = existing(field);
        if (scale < 0 || scale > MOST_SCALE) {
            throw new IllegalArgumentException("no such scale");
        }
        if (!changed.takeNumber(v, scale)) {
            throw new UnsupportedOperationException("a text takes no number");
        }
    }

    public void move(int i, int j) throws NoSuchElementException, UnsupportedOperationException {
        Field from = existing(i);
        Field to = existing(j);
        if (!to.takeField(from)) {
            throw new UnsupportedOperationException("places behind the point do not go into a text");
        }
    }

    public long value(int field) throws NoSuchElementException {
        return existing(field).number();
    }

    private Field existing(int field) throws NoSuchElementException {
        Field found = field < 0 || field >= declaredCount ? null : declared[field];
        if (found == null) {
            throw new NoSuchElementException("no such field");
        }
        return found;
    }

    /** The field of the first kind that the symbols fit, or null; place is still free. */
    private Field fittingField(int place, int usage) {
        if (numbers[place].fits(symbols)) {
            return numbers[place].takesUsage(usage) ? numbers[place] : null;
        }
        if (usage != 0) {
            return null;
        }
        if (texts[place].fits(symbols)) {
            return texts[place];
        }
        return editeds[place].fits(symbols) ? editeds[place] : null;
    }

    /** The digit of v / 10^scale that stands for 10^power; dividing v as it is spares Long.MIN_VALUE. */
    private static int digitAt(long v, int scale, int power) {
        int place = power + scale;
        if (place < 0 || place >= POWERS.length) {
            return 0;
        }
        return Math.abs((int) (v / POWERS[place] % 10));
    }

    private static boolean isDigit(int c) {
        return c >= '0' && c <= '9';
    }

    /**
     * The symbols of a picture, each as often as its number says; C stands for CR and D for DB.
     * Other characters are taken for symbols too: no kind has them, so the kinds refuse them.
     */
    private static final class Symbols {
        private final int[] row = new int[MOST_SYMBOLS];
        private int count;

        /** Whether the text has symbols, all numbers are right, and there are not too many. */
        boolean expand(int[] text, int length) {
            count = 0;
            int at = 0;
            for (int step = 0; step < length && at < length; step++) {
                at = expandOne(text, length, at);
                if (at == NONE) {
                    return false;
                }
            }
            return count > 0;
        }

        /** Takes the symbol at a place with its number: the place behind them, or NONE. */
        private int expandOne(int[] text, int length, int at) {
            int symbol = text[at];
            int next = at + 1 < length ? text[at + 1] : NONE;
            if (symbol == 'C' || symbol == 'D') {
                int second = symbol == 'C' ? 'R' : 'B';
                return next == second && append(symbol, 1) ? at + 2 : NONE;
            }
            if (next != '(') {
                return append(symbol, 1) ? at + 1 : NONE;
            }
            int close = closingPlace(text, length, at + 2);
            if (close == NONE) {
                return NONE;
            }
            return append(symbol, writtenNumber(text, at + 2, close)) ? close + 1 : NONE;
        }

        /** Where the parenthesis closes behind one or two characters, or NONE. */
        private static int closingPlace(int[] text, int length, int first) {
            if (first + 1 < length && text[first + 1] == ')') {
                return first + 1;
            }
            return first + 2 < length && text[first + 2] == ')' ? first + 2 : NONE;
        }

        /** The number from one place up to another, 0 (which no symbol may have) if it is none. */
        private static int writtenNumber(int[] text, int from, int to) {
            int number = 0;
            for (int k = from; k < to; k++) {
                if (!isDigit(text[k])) {
                    return 0;
                }
                number = number * 10 + text[k] - '0';
            }
            return number;
        }

        private boolean append(int symbol, int times) {
            if (times < 1 || times > MOST_SYMBOLS - count) {
                return false;
            }
            for (int k = 0; k < times; k++) {
                row[count] = symbol;
                count++;
            }
            return true;
        }

        int symbolAt(int k) {
            return k >= 0 && k < count ? row[k] : NONE;
        }

        /** The first place from the given one on where the symbol does not stand. */
        int runEnd(int symbol, int from) {
            int k = from;
            while (k < count && row[k] == symbol) {
                k++;
            }
            return k;
        }
    }

    /** What all kinds have: bytes, places before and behind the point, perhaps a sign. */
    private abstract static class Field {
        final int[] bytes = new int[MOST_BYTES];
        int size;
        int before;
        int behind;
        boolean signed;

        abstract int kind();

        /** Whether the symbols are a picture of this kind; if so, the field has it now. */
        abstract boolean fits(Symbols symbols);

        /** The number in the bytes, with all its places behind the point taken as before it. */
        abstract long number();

        /** Moves v / 10^scale here; false if that is refused. */
        abstract boolean takeNumber(long v, int scale);

        /** Moves another field here; false if that is refused. */
        boolean takeField(Field from) {
            return takeNumber(from.number(), from.behind);
        }

        /** Writes this field's characters to a text of some length; false if that is refused. */
        boolean spell(int[] text, int length) {
            for (int k = 0; k < length; k++) {
                text[k] = k < size ? bytes[k] : ' ';
            }
            return true;
        }

        /** Makes the bytes those of a field that is new. */
        void empty() {
            takeNumber(0, 0);
        }

        boolean hasByte(int k) {
            return k >= 0 && k < size;
        }
    }

    /** Kind 0: the digits of the 9s, a byte each or, packed, half a byte each. */
    private static final class NumberField extends Field {
        private int nines;
        private int lowestPower;
        private boolean packed;

        int kind() {
            return NUMBER;
        }

        boolean fits(Symbols symbols) {
            signed = symbols.symbolAt(0) == 'S';
            int start = signed ? 1 : 0;
            boolean fitting = fitsUnscaled(symbols, start)
                    || fitsScaledBefore(symbols, start)
                    || fitsScaledBehind(symbols, start);
            return fitting && before + behind <= MOST_DIGITS;
        }

        /** Whether a number has such a usage; if so, the field has it now. */
        boolean takesUsage(int usage) {
            packed = usage == 1;
            size = packed ? nines / 2 + 1 : nines;
            return usage == 0 || usage == 1;
        }

        private boolean fitsUnscaled(Symbols symbols, int start) {
            int point = symbols.runEnd('9', start);
            int fraction = symbols.symbolAt(point) == 'V' ? point + 1 : point;
            int end = symbols.runEnd('9', fraction);
            before = point - start;
            behind = end - fraction;
            nines = before + behind;
            lowestPower = -behind;
            return nines > 0 && end == symbols.count;
        }

        private boolean fitsScaledBefore(Symbols symbols, int start) {
            boolean pointFirst = symbols.symbolAt(start) == 'V';
            int scaling = pointFirst ? start + 1 : start;
            int scaled = symbols.runEnd('P', scaling);
            boolean pointNext = !pointFirst && symbols.symbolAt(scaled) == 'V';
            int kept = pointNext ? scaled + 1 : scaled;
            int end = symbols.runEnd('9', kept);
            nines = end - kept;
            before = 0;
            behind = scaled - scaling + nines;
            lowestPower = -behind;
            return scaled > scaling && nines > 0 && end == symbols.count;
        }

        private boolean fitsScaledBehind(Symbols symbols, int start) {
            int kept = symbols.runEnd('9', start);
            boolean pointFirst = symbols.symbolAt(kept) == 'V';
            int scaling = pointFirst ? kept + 1 : kept;
            int scaled = symbols.runEnd('P', scaling);
            boolean pointNext = !pointFirst && symbols.symbolAt(scaled) == 'V';
            int end = pointNext ? scaled + 1 : scaled;
            nines = kept - start;
            lowestPower = scaled - scaling;
            before = nines + lowestPower;
            behind = 0;
            return lowestPower > 0 && nines > 0 && end == symbols.count;
        }

        long number() {
            long digits = 0;
            for (int k = 0; k < nines; k++) {
                digits = digits * 10 + (bytes[byteOf(k)] >> shiftOf(k) & 15) % 10;
            }
            if (lowestPower > 0) {
                digits *= POWERS[lowestPower];
            }
            return isBelowZero() ? -digits : digits;
        }

        private boolean isBelowZero() {
            int last = bytes[size - 1];
            if (packed) {
                return signed && ((last & 15) == 11 || (last & 15) == 13);
            }
            return signed && (last & 64) != 0;
        }

        boolean takeNumber(long v, int scale) {
            boolean left = false;
            for (int k = 0; k < size; k++) {
                bytes[k] = packed ? 0 : '0';
            }
            for (int k = 0; k < nines; k++) {
                int digit = digitAt(v, scale, lowestPower + nines - 1 - k);
                bytes[byteOf(k)] |= digit << shiftOf(k);
                left = left || digit != 0;
            }
            bytes[size - 1] |= signBits(signed && left && v < 0);
            return true;
        }

        private int signBits(boolean below) {
            if (!packed) {
                return below ? 64 : 0;
            }
            if (!signed) {
                return 15;
            }
            return below ? 13 : 12;
        }

        // Packed digits are counted from the sign, which has the last half byte.
        private int byteOf(int digit) {
            return packed ? size - 1 - (nines - digit) / 2 : digit;
        }

        private int shiftOf(int digit) {
            return packed && (nines - digit) % 2 == 1 ? 4 : 0;
        }

        boolean spell(int[] text, int length) {
            if (behind > 0) {
                return false;
            }
            long v = number();
            for (int k = 0; k < length; k++) {
                text[k] = k < before ? '0' + digitAt(v, 0, before - 1 - k) : ' ';
            }
            return true;
        }
    }

    /** Kind 1: characters. */
    private static final class TextField extends Field {
        int kind() {
            return TEXT;
        }

        boolean fits(Symbols symbols) {
            boolean lettered = false;
            for (int k = 0; k < symbols.count; k++) {
                int symbol = symbols.row[k];
                if (symbol == 'X' || symbol == 'A') {
                    lettered = true;
                } else if (symbol != '9') {
                    return false;
                }
            }
            size = symbols.count;
            return lettered;
        }

        long number() {
            long digits = 0;
            for (int k = Math.max(0, size - MOST_DIGITS); k < size; k++) {
                digits = digits * 10 + (isDigit(bytes[k]) ? bytes[k] - '0' : 0);
            }
            return digits;
        }

        boolean takeNumber(long v, int scale) {
            return false;
        }

        boolean takeField(Field from) {
            return from.spell(bytes, size);
        }

        void empty() {
            for (int k = 0; k < size; k++) {
                bytes[k] = ' ';
            }
        }
    }

    /** Kind 2: a number as it is to be read, with signs, insertions, and its first zeros suppressed. */
    private static final class EditedField extends Field {
        // Stands in powers for a symbol that is no digit; no digit has so high a power.
        private static final int NO_DIGIT = 99;

        private final int[] row = new int[MOST_SYMBOLS];
        private final int[] powers = new int[MOST_SYMBOLS];
        private int leading;
        private int trailing;
        private int bodyStart;
        private int bodyEnd;
        private int fill;
        private int fills;
        private int firstFill;
        private int nines;
        private int point;

        int kind() {
            return EDITED;
        }

        boolean fits(Symbols symbols) {
            System.arraycopy(symbols.row, 0, row, 0, symbols.count);
            takeApart(symbols.count);
            if (!countBody() || !signsAgree() || !fillsStandRight()) {
                return false;
            }
            placeDigits();
            signed = leading != NONE || trailing != NONE || isSign(fill);
            size = symbols.count - (hasHiddenPoint() ? 1 : 0) + (isLetterSign() ? 1 : 0);
            return before + behind >= 1 && before + behind <= MOST_DIGITS;
        }

        /** Sets signs and currency aside; what is left of the row is the body. */
        private void takeApart(int count) {
            bodyStart = 0;
            bodyEnd = count;
            int last = row[count - 1];
            boolean trails = last == 'C' || last == 'D' || isSign(last) && standsOnce(last);
            trailing = trails ? last : NONE;
            bodyEnd -= trails ? 1 : 0;
            int first = firstOfRest();
            boolean leads = isSign(first) && standsOnce(first);
            leading = leads ? first : NONE;
            bodyStart += leads ? 1 : 0;
            bodyStart += firstOfRest() == '$' && standsOnce('$') ? 1 : 0;
        }

        private int firstOfRest() {
            return bodyStart < bodyEnd ? row[bodyStart] : NONE;
        }

        private boolean standsOnce(int symbol) {
            int times = 0;
            for (int k = bodyStart; k < bodyEnd; k++) {
                times += row[k] == symbol ? 1 : 0;
            }
            return times == 1;
        }

        private boolean countBody() {
            fill = NONE;
            fills = 0;
            firstFill = bodyEnd;
            nines = 0;
            point = bodyEnd;
            boolean allowed = true;
            for (int k = bodyStart; k < bodyEnd; k++) {
                allowed = allowed && countSymbol(k);
            }
            return allowed;
        }

        private boolean countSymbol(int k) {
            switch (row[k]) {
                case '9':
                    nines++;
                    return true;
                case 'Z':
                case '*':
                case '+':
                case '-':
                case '$':
                    return countFill(k);
                case '.':
                case 'V':
                    boolean only = point == bodyEnd;
                    point = k;
                    return only;
                case 'B':
                case '0':
                case '/':
                case ',':
                    return true;
                default:
                    return false;
            }
        }

        private boolean countFill(int k) {
            if (fills == 0) {
                fill = row[k];
                firstFill = k;
            }
            fills++;
            return row[k] == fill;
        }

        private boolean signsAgree() {
            if (isSign(fill)) {
                return leading == NONE && trailing == NONE;
            }
            return leading == NONE || trailing == NONE;
        }

        private boolean fillsStandRight() {
            if (fills == 0) {
                return true;
            }
            if (firstFill > point || isFloating() && fills < 2) {
                return false;
            }
            boolean nineSeen = false;
            for (int k = bodyStart; k < bodyEnd; k++) {
                boolean late = nineSeen || k > point && nines > 0;
                if (row[k] == fill && late) {
                    return false;
                }
                nineSeen = nineSeen || row[k] == '9';
            }
            return true;
        }

        private void placeDigits() {
            before = 0;
            behind = 0;
            for (int k = bodyStart; k < bodyEnd; k++) {
                if (isDigitPlace(k)) {
                    before += k < point ? 1 : 0;
                    behind += k > point ? 1 : 0;
                }
            }
            int power = before;
            for (int k = bodyStart; k < bodyEnd; k++) {
                boolean digit = isDigitPlace(k);
                power -= digit ? 1 : 0;
                powers[k] = digit ? power : NO_DIGIT;
            }
        }

        private boolean isDigitPlace(int k) {
            if (isFloating() && k == firstFill) {
                return false;
            }
            return row[k] == '9' || row[k] == fill;
        }

        private boolean isFloating() {
            return isSign(fill) || fill == '$';
        }

        private boolean isLetterSign() {
            return trailing == 'C' || trailing == 'D';
        }

        private boolean hasHiddenPoint() {
            return point < bodyEnd && row[point] == 'V';
        }

        private static boolean isSign(int symbol) {
            return symbol == '+' || symbol == '-';
        }

        private int byteOf(int k) {
            return k > point && hasHiddenPoint() ? k - 1 : k;
        }

        long number() {
            long digits = 0;
            for (int k = bodyStart; k < bodyEnd; k++) {
                if (powers[k] != NO_DIGIT) {
                    int c = bytes[byteOf(k)];
                    digits = digits * 10 + (isDigit(c) ? c - '0' : 0);
                }
            }
            return isBelowZero() ? -digits : digits;
        }

        private boolean isBelowZero() {
            for (int k = 0; k < size; k++) {
                if (bytes[k] == '-') {
                    return true;
                }
            }
            return isLetterSign() && bytes[size - 2] == trailing && bytes[size - 1] == secondLetter();
        }

        private int secondLetter() {
            return trailing == 'C' ? 'R' : 'B';
        }

        boolean takeNumber(long v, int scale) {
            boolean left = leavesDigit(v, scale);
            if (nines == 0 && !left) {
                suppressAll();
                return true;
            }
            boolean below = signed && left && v < 0;
            for (int k = 0; k < bodyStart; k++) {
                bytes[k] = fixedCharacter(row[k], below);
            }
            writeBody(v, scale);
            suppressZone(zoneEnd(v, scale), below);
            writeTrailing(below);
            return true;
        }

        private boolean leavesDigit(long v, int scale) {
            for (int k = bodyStart; k < bodyEnd; k++) {
                if (standsForMore(k, v, scale)) {
                    return true;
                }
            }
            return false;
        }

        private boolean standsForMore(int k, long v, int scale) {
            return powers[k] != NO_DIGIT && digitAt(v, scale, powers[k]) != 0;
        }

        private void suppressAll() {
            for (int k = 0; k < size; k++) {
                bytes[k] = suppressed();
            }
            if (fill == '*' && point < bodyEnd && row[point] == '.') {
                bytes[point] = '.';
            }
        }

        private int suppressed() {
            return fill == '*' ? '*' : ' ';
        }

        /** What a sign or currency shows, fixed or floating. */
        private static int fixedCharacter(int symbol, boolean below) {
            if (symbol == '$') {
                return '$';
            }
            if (below) {
                return '-';
            }
            return symbol == '+' ? '+' : ' ';
        }

        private void writeBody(long v, int scale) {
            for (int k = bodyStart; k < bodyEnd; k++) {
                if (powers[k] != NO_DIGIT) {
                    bytes[byteOf(k)] = '0' + digitAt(v, scale, powers[k]);
                } else if (row[k] != 'V') {
                    bytes[byteOf(k)] = row[k] == 'B' ? ' ' : row[k];
                }
            }
        }

        private int zoneEnd(long v, int scale) {
            for (int k = firstFill; k < bodyEnd; k++) {
                if (k == point || row[k] == '9' || standsForMore(k, v, scale)) {
                    return k;
                }
            }
            return bodyEnd;
        }

        // The zone ends before the point, so there each symbol has the byte of its own number.
        private void suppressZone(int end, boolean below) {
            for (int k = firstFill; k < end; k++) {
                bytes[k] = suppressed();
            }
            if (isFloating() && end > firstFill) {
                bytes[end - 1] = fixedCharacter(fill, below);
            }
        }

        private void writeTrailing(boolean below) {
            if (isLetterSign()) {
                bytes[size - 2] = below ? trailing : ' ';
                bytes[size - 1] = below ? secondLetter() : ' ';
            } else if (trailing != NONE) {
                bytes[size - 1] = fixedCharacter(trailing, below);
            }
        }
    }
}
