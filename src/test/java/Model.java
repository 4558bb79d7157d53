import java.math.BigInteger;
import java.util.ArrayList;
import java.util.List;
import java.util.NoSuchElementException;
import java.util.regex.Matcher;
import java.util.regex.Pattern;

/**
 * The document said once more, with the means that the program may not use: pictures are regular
 * expressions, numbers are big ones, and bytes are texts.
 */
final class Model {
    private static final Pattern SYMBOL =
            Pattern.compile("(CR|DB)|([S9VPXAZ*+\\-$.,B0/])(?:\\((\\d\\d?)\\))?");
    private static final Pattern NUMBER =
            Pattern.compile("S?(?:9+V?9*|V9+|V?P+9+|P+V9+|9+V?P+|9+P+V)");
    private static final Pattern TEXT = Pattern.compile("[XA9]*[XA][XA9]*");
    private static final String INSERTIONS = "[B0/,]*";
    private static final String SIGNED_BEFORE = "(?<lead>[+-])?(?<cur>[$])?(?<body>%s)";
    private static final String SIGNED_BEHIND = "(?<cur>[$])?(?<body>%s)(?<trail>[-+CD])?";
    private static final String UNSIGNED = "(?<cur>[$])?(?<body>%s)";

    private final List<Field> fields = new ArrayList<>();
    private final List<Integer> typed = new ArrayList<>();

    /** A field as its picture says it; text is its bytes. */
    private static final class Field {
        String symbols;
        int kind;
        int usage;
        int before;
        int behind;
        boolean signed;
        String lead = "";
        String currency = "";
        String body = "";
        String trail = "";
        char fill;
        String text = "";
    }

    boolean type(int c) {
        return typed.size() < 24 && typed.add(c);
    }

    int declare(int usage) {
        if (fields.size() == 8) {
            throw new IllegalStateException();
        }
        Field field = parse(expand(typed));
        typed.clear();
        if (field == null || usage != 0 && !(usage == 1 && field.kind == 0)) {
            throw new IllegalArgumentException();
        }
        field.usage = usage;
        fields.add(field);
        if (field.kind == 1) {
            field.text = " ".repeat(field.symbols.length());
        } else {
            store(field, BigInteger.ZERO, 0);
        }
        return fields.size() - 1;
    }

    void clear() {
        fields.clear();
    }

    int fields() {
        return fields.size();
    }

    int look(int field, int what) {
        Field f = existing(field);
        int[] all = {f.kind, f.text.length(), f.before, f.behind, f.signed ? 1 : 0};
        if (what < 0 || what >= all.length) {
            throw new IllegalArgumentException();
        }
        return all[what];
    }

    int get(int field, int k) {
        return withByte(field, k).text.charAt(k);
    }

    void set(int field, int k, int v) {
        Field f = withByte(field, k);
        if (v < 0 || v > 255) {
            throw new IllegalArgumentException();
        }
        f.text = f.text.substring(0, k) + (char) v + f.text.substring(k + 1);
    }

    void put(int field, long v, int scale) {
        Field f = existing(field);
        if (scale < 0 || scale > 6) {
            throw new IllegalArgumentException();
        }
        if (f.kind == 1) {
            throw new UnsupportedOperationException();
        }
        store(f, BigInteger.valueOf(v), scale);
    }

    void move(int i, int j) {
        Field from = existing(i);
        Field to = existing(j);
        if (to.kind != 1) {
            store(to, BigInteger.valueOf(number(from)), from.behind);
            return;
        }
        if (from.kind == 0 && from.behind > 0) {
            throw new UnsupportedOperationException();
        }
        String letters = from.kind == 0 ? padded(BigInteger.valueOf(number(from)).abs(), from.before) : from.text;
        to.text = (letters + " ".repeat(24)).substring(0, to.text.length());
    }

    long value(int field) {
        return number(existing(field));
    }

    private Field existing(int field) {
        if (field < 0 || field >= fields.size()) {
            throw new NoSuchElementException();
        }
        return fields.get(field);
    }

    private Field withByte(int field, int k) {
        Field f = existing(field);
        if (k < 0 || k >= f.text.length()) {
            throw new NoSuchElementException();
        }
        return f;
    }

    /** The symbols, CR as C and DB as D; null if there are others, none, or too many. */
    private static String expand(List<Integer> typed) {
        StringBuilder text = new StringBuilder();
        for (int c : typed) {
            text.append(c >= 0 && c < 128 ? (char) c : '?');
        }
        StringBuilder all = new StringBuilder();
        Matcher m = SYMBOL.matcher(text);
        int at = 0;
        while (m.find(at) && m.start() == at) {
            int times = m.group(3) == null ? 1 : Integer.parseInt(m.group(3));
            if (times == 0) {
                return null;
            }
            all.append(m.group(1) != null ? m.group(1).substring(0, 1) : m.group(2).repeat(times));
            at = m.end();
        }
        return at == text.length() && all.length() >= 1 && all.length() <= 24 ? all.toString() : null;
    }

    private static int count(String text, String wanted) {
        return (int) text.chars().filter(c -> wanted.indexOf(c) >= 0).count();
    }

    private static Field parse(String symbols) {
        if (symbols == null) {
            return null;
        }
        Field f = new Field();
        f.symbols = symbols;
        if (NUMBER.matcher(symbols).matches() && count(symbols, "9P") <= 12) {
            placeNumber(f);
            return f;
        }
        if (TEXT.matcher(symbols).matches()) {
            f.kind = 1;
            return f;
        }
        f.kind = 2;
        return parseEdited(f) ? f : null;
    }

    private static void placeNumber(Field f) {
        String plain = f.symbols.replace("S", "");
        f.signed = !plain.equals(f.symbols);
        if (plain.contains("P")) {
            String joined = plain.replace("V", "");
            f.before = joined.startsWith("9") ? joined.length() : 0;
            f.behind = joined.length() - f.before;
        } else {
            int v = plain.indexOf('V');
            f.before = v < 0 ? plain.length() : v;
            f.behind = v < 0 ? 0 : plain.length() - v - 1;
        }
    }

    private static boolean parseEdited(Field f) {
        for (char fill : new char[] {0, 'Z', '*', '$', '+', '-'}) {
            String body = bodyWith(fill);
            boolean ownSign = fill == '+' || fill == '-';
            String[] forms = ownSign ? new String[] {UNSIGNED} : new String[] {SIGNED_BEHIND, SIGNED_BEFORE};
            for (String form : forms) {
                String used = fill == '$' ? form.replace("(?<cur>[$])?", "(?<cur>)") : form;
                Matcher m = Pattern.compile(String.format(used, body)).matcher(f.symbols);
                if (m.matches()) {
                    return takeParts(f, m, form, fill);
                }
            }
        }
        return false;
    }

    private static String bodyWith(char fill) {
        String nine = "(?:" + INSERTIONS + "9)*" + INSERTIONS;
        if (fill == 0) {
            return nine + "(?:[.V]" + nine + ")?";
        }
        String one = INSERTIONS + "[" + (fill == '-' ? "\\-" : fill) + "]";
        String some = "(?:" + one + ")+";
        return "(?:" + some + nine + "(?:[.V]" + nine + ")?|" + some + INSERTIONS + "[.V]" + some + INSERTIONS + ")";
    }

    private static boolean takeParts(Field f, Matcher m, String form, char fill) {
        f.lead = form.equals(SIGNED_BEFORE) && m.group("lead") != null ? m.group("lead") : "";
        f.trail = form.equals(SIGNED_BEHIND) && m.group("trail") != null ? m.group("trail") : "";
        f.currency = m.group("cur") == null ? "" : m.group("cur");
        f.body = m.group("body");
        f.fill = fill;
        f.signed = !f.lead.isEmpty() || !f.trail.isEmpty() || fill == '+' || fill == '-';
        String marked = marked(f);
        int point = pointOf(f.body);
        f.before = count(marked.substring(0, point), "d");
        f.behind = count(marked, "d") - f.before;
        boolean enoughFills = !floats(f) || count(f.body, "" + fill) >= 2;
        return enoughFills && f.before + f.behind >= 1 && f.before + f.behind <= 12;
    }

    private static boolean floats(Field f) {
        return f.fill == '+' || f.fill == '-' || f.fill == '$';
    }

    private static int pointOf(String body) {
        return Math.max(body.indexOf('.'), body.indexOf('V')) < 0
                ? body.length() : Math.max(body.indexOf('.'), body.indexOf('V'));
    }

    /** The body with d for each digit, and f for the fill that is none. */
    private static String marked(Field f) {
        String fills = f.fill == 0 ? f.body : f.body.replace(f.fill, 'd');
        String all = fills.replace('9', 'd');
        return floats(f) ? all.replaceFirst("d", "f") : all;
    }

    private static String padded(BigInteger v, int length) {
        String digits = "0".repeat(length) + v;
        return digits.substring(digits.length() - length);
    }

    /** The digits of the field's places, before and behind the point. */
    private static String placed(Field f, BigInteger v, int scale) {
        BigInteger shifted = v.abs().multiply(BigInteger.TEN.pow(f.behind)).divide(BigInteger.TEN.pow(scale));
        return padded(shifted, f.before + f.behind);
    }

    private static void store(Field f, BigInteger v, int scale) {
        String digits = placed(f, v, scale);
        if (f.kind == 0) {
            storeNumber(f, digits, v.signum() < 0);
        } else {
            storeEdited(f, digits, v.signum() < 0 && f.signed && digits.matches(".*[1-9].*"));
        }
    }

    private static void storeNumber(Field f, String digits, boolean below) {
        int nines = count(f.symbols, "9");
        String joined = f.symbols.replaceAll("[SV]", "");
        String kept = joined.startsWith("P") ? digits.substring(digits.length() - nines) : digits.substring(0, nines);
        boolean negative = below && f.signed && kept.matches(".*[1-9].*");
        if (f.usage == 1) {
            String sign = f.signed ? negative ? "D" : "C" : "F";
            f.text = packed((nines % 2 == 0 ? "0" : "") + kept + sign);
        } else {
            char last = kept.charAt(nines - 1);
            f.text = kept.substring(0, nines - 1) + (char) (negative ? last + 64 : last);
        }
    }

    private static String packed(String halves) {
        StringBuilder all = new StringBuilder();
        for (int k = 0; k < halves.length(); k += 2) {
            all.append((char) Integer.parseInt(halves.substring(k, k + 2), 16));
        }
        return all.toString();
    }

    private static void storeEdited(Field f, String digits, boolean below) {
        int size = f.symbols.replace("V", "").replaceAll("[CD]", "??").length();
        if (!f.body.contains("9") && digits.matches("0*")) {
            boolean stars = f.fill == '*';
            f.text = (stars ? "*" : " ").repeat(size);
            int dot = f.symbols.indexOf('.');
            if (stars && dot >= 0) {
                f.text = f.text.substring(0, dot) + "." + f.text.substring(dot + 1);
            }
            return;
        }
        String shown = editedBody(f, digits, below);
        f.text = sign(f.lead, below) + f.currency + shown + sign(f.trail, below);
    }

    private static String sign(String symbol, boolean below) {
        switch (symbol) {
            case "+":
                return below ? "-" : "+";
            case "-":
                return below ? "-" : " ";
            case "C":
                return below ? "CR" : "  ";
            case "D":
                return below ? "DB" : "  ";
            default:
                return symbol;
        }
    }

    private static String editedBody(Field f, String digits, boolean below) {
        String marked = marked(f);
        StringBuilder shown = new StringBuilder();
        int next = 0;
        for (int k = 0; k < marked.length(); k++) {
            char c = marked.charAt(k);
            shown.append(c == 'd' ? digits.charAt(next++) : c == 'B' ? ' ' : c);
        }
        if (f.fill != 0) {
            int from = f.body.indexOf(f.fill);
            int end = from;
            while (end < f.body.length() && !stopsZone(f, marked, shown, end)) {
                shown.setCharAt(end, f.fill == '*' ? '*' : ' ');
                end++;
            }
            if (floats(f)) {
                shown.setCharAt(end - 1, sign("" + f.fill, below).charAt(0));
            }
        }
        return shown.toString().replace("V", "");
    }

    private static boolean stopsZone(Field f, String marked, StringBuilder shown, int k) {
        boolean more = marked.charAt(k) == 'd' && shown.charAt(k) != '0';
        return more || "9.V".indexOf(f.body.charAt(k)) >= 0;
    }

    private static long number(Field f) {
        if (f.kind == 0) {
            return readNumber(f);
        }
        if (f.kind == 1) {
            String last = f.text.substring(Math.max(0, f.text.length() - 12));
            return Long.parseLong(last.replaceAll("[^0-9]", "0"));
        }
        return readEdited(f);
    }

    private static long readNumber(Field f) {
        StringBuilder halves = new StringBuilder();
        for (char c : f.text.toCharArray()) {
            halves.append(f.usage == 1 ? String.format("%02x", (int) c) : String.format("%x", c & 15));
        }
        int nines = count(f.symbols, "9");
        int end = halves.length() - f.usage;
        long digits = 0;
        for (char c : halves.substring(end - nines, end).toCharArray()) {
            digits = digits * 10 + Character.digit(c, 16) % 10;
        }
        String joined = f.symbols.replaceAll("[SV]", "");
        if (joined.endsWith("P")) {
            digits = Long.parseLong(digits + "0".repeat(count(joined, "P")));
        }
        int last = f.text.charAt(f.text.length() - 1);
        boolean marked = f.usage == 1 ? "bd".indexOf(halves.charAt(end)) >= 0 : (last & 64) == 64;
        return f.signed && marked ? -digits : digits;
    }

    private static long readEdited(Field f) {
        String marked = (f.lead + f.currency + marked(f)).replace("V", "");
        StringBuilder digits = new StringBuilder();
        for (int k = 0; k < marked.length(); k++) {
            char c = f.text.charAt(k);
            if (marked.charAt(k) == 'd') {
                digits.append(c >= '0' && c <= '9' ? c : '0');
            }
        }
        String letters = f.trail.equals("C") ? "CR" : f.trail.equals("D") ? "DB" : null;
        boolean below = f.text.contains("-") || letters != null && f.text.endsWith(letters);
        long v = Long.parseLong(digits.toString());
        return below ? -v : v;
    }
}
