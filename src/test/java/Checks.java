import java.util.function.LongSupplier;

/** Counts what is not as due, and the small words that every test says to a PictureFields. */
final class Checks {
    static final String DONE = "done";
    static final String ARGUMENT = "IllegalArgumentException";
    static final String STATE = "IllegalStateException";
    static final String ELEMENT = "NoSuchElementException";
    static final String UNSUPPORTED = "UnsupportedOperationException";
    private static int wrong = 0;
    private static int made = 0;

    private Checks() {
    }

    static void due(String what, Object got, Object want) {
        made++;
        if (!got.equals(want)) {
            wrong++;
            System.out.println(what + " answered " + got + ", due is " + want);
        }
    }

    /** Ends the program, with exit code 1 if an answer was not as due. */
    static void finish(String name) {
        System.out.println(name + ": " + made + " checks, " + wrong + " wrong");
        System.exit(wrong == 0 && made > 0 ? 0 : 1);
    }

    /** What a call answers, or the simple name of what it throws. */
    static String answer(LongSupplier call) {
        try {
            return Long.toString(call.getAsLong());
        } catch (RuntimeException e) {
            return e.getClass().getSimpleName();
        }
    }

    static String outcome(Runnable call) {
        try {
            call.run();
            return DONE;
        } catch (RuntimeException e) {
            return e.getClass().getSimpleName();
        }
    }

    static void type(PictureFields x, String text) {
        for (char c : text.toCharArray()) {
            x.type(c);
        }
    }

    static String declare(PictureFields x, String picture, int usage) {
        type(x, picture);
        return answer(() -> x.declare(usage));
    }

    /** A new object with one field. */
    static PictureFields with(String picture, int usage) {
        PictureFields x = new PictureFields();
        due("declare " + picture, declare(x, picture, usage), "0");
        return x;
    }

    static PictureFields with(String picture) {
        return with(picture, 0);
    }

    static String bytes(PictureFields x, int field) {
        StringBuilder all = new StringBuilder();
        int size = x.look(field, 1);
        for (int k = 0; k < size; k++) {
            all.append((char) x.get(field, k));
        }
        return all.toString();
    }

    static String hex(PictureFields x, int field) {
        StringBuilder all = new StringBuilder();
        for (char c : bytes(x, field).toCharArray()) {
            all.append(String.format("%02X", (int) c));
        }
        return all.toString();
    }

    /** Kind, bytes, digits before and behind the point, sign. */
    static String looks(PictureFields x, int field) {
        StringBuilder all = new StringBuilder();
        for (int what = 0; what <= 4; what++) {
            all.append(what == 0 ? "" : " ").append(x.look(field, what));
        }
        return all.toString();
    }

    static void setAll(PictureFields x, int field, String text) {
        for (int k = 0; k < text.length(); k++) {
            x.set(field, k, text.charAt(k));
        }
    }

    static void areNone(String label, String... pictures) {
        for (String picture : pictures) {
            due(label + ": " + picture, declare(new PictureFields(), picture, 0), ARGUMENT);
        }
    }

    /** That each is the picture of a field of that kind. */
    static void areOfKind(String label, int kind, String... pictures) {
        for (String picture : pictures) {
            due(label + ": kind of " + picture, with(picture).look(0, 0), kind);
        }
    }

    static void looks(String label, String picture, String want) {
        due(label + ": looks of " + picture, looks(with(picture), 0), want);
    }

    static void put(String label, String picture, long v, int scale, String want) {
        PictureFields x = with(picture);
        x.put(0, v, scale);
        due(label + ": put " + v + ", " + scale + " to " + picture, bytes(x, 0), want);
    }

    static void putPacked(String label, String picture, long v, String want) {
        PictureFields x = with(picture, 1);
        x.put(0, v, 0);
        due(label + ": put " + v + " to packed " + picture, hex(x, 0), want);
    }

    static void move(String label, String from, String bytes, String to, String want) {
        PictureFields x = with(from);
        declare(x, to, 0);
        setAll(x, 0, bytes);
        due(label + ": move " + from + " to " + to, outcome(() -> x.move(0, 1)), DONE);
        due(label + ": " + bytes + " of " + from + " in " + to, bytes(x, 1), want);
        due(label + ": " + from + " is as before", bytes(x, 0), bytes);
    }

    static void value(String label, String picture, int usage, String bytes, long want) {
        PictureFields x = with(picture, usage);
        setAll(x, 0, bytes);
        due(label + ": value of " + bytes + " in " + picture, x.value(0), want);
    }

    /** The characters whose numbers the pairs of hexadecimal digits are. */
    static String unhex(String pairs) {
        StringBuilder all = new StringBuilder();
        for (int k = 0; k < pairs.length(); k += 2) {
            all.append((char) Integer.parseInt(pairs.substring(k, k + 2), 16));
        }
        return all.toString();
    }
}
