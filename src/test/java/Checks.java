import java.util.function.LongSupplier;

/** Counts what is not as due, and the small words that every test says to a PictureFields. */
final class Checks {
    static final String DONE = "done";
    private static int wrong = 0;
    private static int made = 0;

    private Checks() {
    }

    static void due(String what, Object got, Object want) {
        made++;
        if (!got.equals(want)) {
            wrong++;
            System.out.println(what + " answered " + got + ", due is " + want);
        }
    }

    /** Ends the program, with exit code 1 if an answer was not as due. */
    static void finish(String name) {
        System.out.println(name + ": " + made + " checks, " + wrong + " wrong");
        System.exit(wrong == 0 && made > 0 ? 0 : 1);
    }

    /** What a call answers, or the simple name of what it throws. */
    static String answer(LongSupplier call) {
        try {
            return Long.toString(call.getAsLong());
        } catch (RuntimeException e) {
            return e.getClass().getSimpleName();
        }
    }

    static String outcome(Runnable call) {
        try {
            call.run();
            return DONE;
        } catch (RuntimeException e) {
            return e.getClass().getSimpleName();
        }
    }

    static void type(PictureFields x, String text) {
        for (char c : text.toCharArray()) {
            x.type(c);
        }
    }

    static String declare(PictureFields x, String picture, int usage) {
        type(x, picture);
        return answer(() -> x.declare(usage));
    }

    /** A new object with one field. */
    static PictureFields with(String picture, int usage) {
        PictureFields x = new PictureFields();
        due("declare " + picture, declare(x, picture, usage), "0");
        return x;
    }

    static PictureFields with(String picture) {
        return with(picture, 0);
    }

    static String bytes(PictureFields x, int field) {
        StringBuilder all = new StringBuilder();
        int size = x.look(field, 1);
        for (int k = 0; k < size; k++) {
            all.append((char) x.get(field, k));
        }
        return all.toString();
    }

    static String hex(PictureFields x, int field) {
        StringBuilder all = new StringBuilder();
        for (char c : bytes(x, field).toCharArray()) {
            all.append(String.format("%02X", (int) c));
        }
        return all.toString();
    }

    /** Kind, bytes, digits before and behind the point, sign. */
    static String looks(PictureFields x, int field) {
        StringBuilder all = new StringBuilder();
        for (int what = 0; what <= 4; what++) {
            all.append(what == 0 ? "" : " ").append(x.look(field, what));
        }
        return all.toString();
    }

    static void setAll(PictureFields x, int field, String text) {
        for (int k = 0; k < text.length(); k++) {
            x.set(field, k, text.charAt(k));
        }
    }
}
