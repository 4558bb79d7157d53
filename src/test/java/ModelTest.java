import java.util.Random;

/** The program beside the Model: many pictures, and long runs of calls, always the same ones. */
public final class ModelTest {
    private static final String ALL_SYMBOLS = "S9VPXAZ*+-$.,B0/CRD()2";
    private static final String SOME_SYMBOLS = "9Z+-$.VB";
    private static final long[] NUMBERS = {0, 1, -1, 10, -5, 99, -100, 1234567, -987654321, Long.MIN_VALUE};
    private static final String[] PIECES = {"9", "9", "9(3)", "99", "Z", "ZZ", "Z(4)", "*", "**", "+", "++", "-", "--",
        "$", "$$", "$(3)", ".", "V", ",", "B", "0", "/", "CR", "DB", "S", "P", "P(2)", "X", "X(4)", "A", "9(02)", "B(5)"};
    private static final String[] PICTURES = {"S9(3)V99", "9(12)", "S9(11)", "SV9(12)", "S9(6)V9(6)", "S9PP", "VPP99", "SPP9", "99", "X(5)", "A9",
        "X(24)", "X(13)", "$$$,$$9.99-", "ZZ,ZZ9.99CR", "**,***.**", "+(4)9B9/9", "-9(2)V9", "$++9", "ZZ.ZZ", "$.$$",
        "Z(6).Z(6)", "+$Z,ZZ9.9", "9(12)B(11)DB", "--,--9V99", "99.99DB", "B0/Z9", "$**9.9+", "-(7)", "0Z/Z0.00"};

    private ModelTest() {
    }

    public static void main(String[] args) {
        everyPicture(ALL_SYMBOLS, 3);
        everyPicture(SOME_SYMBOLS, 6);
        Random random = new Random(20261115);
        for (int k = 0; k < 60000; k++) {
            checkPicture(pieces(random));
        }
        for (int run = 0; run < 1500; run++) {
            checkRun(random, run);
        }
        Checks.finish("ModelTest");
    }

    private static void everyPicture(String symbols, int longest) {
        for (int length = 1; length <= longest; length++) {
            long all = Math.round(Math.pow(symbols.length(), length));
            for (long n = 0; n < all; n++) {
                StringBuilder picture = new StringBuilder();
                long rest = n;
                for (int k = 0; k < length; k++) {
                    picture.append(symbols.charAt((int) (rest % symbols.length())));
                    rest /= symbols.length();
                }
                checkPicture(picture.toString());
            }
        }
    }

    private static String pieces(Random random) {
        StringBuilder picture = new StringBuilder();
        int count = 1 + random.nextInt(9);
        for (int k = 0; k < count; k++) {
            int times = random.nextInt(4) == 0 ? 2 : 1;
            picture.append(PIECES[random.nextInt(PIECES.length)].repeat(times));
        }
        return picture.toString();
    }

    private static void checkPicture(String picture) {
        PictureFields x = new PictureFields();
        Model m = new Model();
        for (char c : picture.toCharArray()) {
            x.type(c);
            m.type(c);
        }
        String declared = Checks.answer(() -> x.declare(0));
        Checks.due("declare " + picture, declared, Checks.answer(() -> m.declare(0)));
        if (!declared.equals("0")) {
            return;
        }
        Checks.due("state of " + picture, state(x, 0), state(m, 0));
        for (int k = 0; k < NUMBERS.length && x.look(0, 0) != 1; k++) {
            long v = NUMBERS[k];
            int scale = k % 4;
            x.put(0, v, scale);
            m.put(0, v, scale);
            Checks.due("put " + v + ", " + scale + " to " + picture, state(x, 0), state(m, 0));
        }
    }

    private static String state(PictureFields x, int field) {
        return Checks.looks(x, field) + " [" + Checks.bytes(x, field) + "] " + x.value(field);
    }

    private static String state(Model m, int field) {
        StringBuilder all = new StringBuilder();
        for (int what = 0; what <= 4; what++) {
            all.append(m.look(field, what)).append(what < 4 ? " " : " [");
        }
        for (int k = 0; k < m.look(field, 1); k++) {
            all.append((char) m.get(field, k));
        }
        return all + "] " + m.value(field);
    }

    /** A run of calls on one object, with the looks at its end some 500: the document promises 512. */
    private static void checkRun(Random random, int run) {
        PictureFields x = new PictureFields();
        Model m = new Model();
        for (int calls = 0; calls < 220; ) {
            if (random.nextInt(12) == 0) {
                calls += declareBoth(random, x, m, run);
            } else {
                calls += callBoth(random, x, m, run);
            }
        }
        for (int field = 0; field < m.fields(); field++) {
            Checks.due("run " + run + ", field " + field, state(x, field), state(m, field));
        }
    }

    private static int declareBoth(Random random, PictureFields x, Model m, int run) {
        boolean known = random.nextInt(5) != 0;
        String picture = known ? PICTURES[random.nextInt(PICTURES.length)] : pieces(random);
        for (char c : picture.toCharArray()) {
            Checks.due("run " + run + ", type " + c, x.type(c), m.type(c));
        }
        int usage = random.nextInt(20) == 0 ? random.nextInt(5) - 1 : random.nextInt(3) / 2;
        String want = Checks.answer(() -> m.declare(usage));
        Checks.due("run " + run + ", declare " + picture, Checks.answer(() -> x.declare(usage)), want);
        return picture.length() + 1;
    }

    private static int callBoth(Random random, PictureFields x, Model m, int run) {
        int i = index(random, m.fields());
        int j = index(random, m.fields());
        int k = random.nextInt(40) == 0 ? -1 : random.nextInt(14);
        String about = "run " + run + ", ";
        switch (random.nextInt(16)) {
            case 0:
                int c = random.nextInt(300) - 20;
                if (random.nextInt(4) == 0) {
                    Checks.due(about + "type " + c, x.type(c), m.type(c));
                }
                return 1;
            case 1:
                if (random.nextInt(10) == 0) {
                    x.clear();
                    m.clear();
                }
                Checks.due(about + "fields", x.fields(), m.fields());
                return 2;
            case 2:
                int what = random.nextInt(7) - 1;
                Checks.due(about + "look " + i + " " + what, Checks.answer(() -> x.look(i, what)),
                        Checks.answer(() -> m.look(i, what)));
                return 1;
            case 3:
            case 4:
                Checks.due(about + "get " + i + " " + k, Checks.answer(() -> x.get(i, k)), Checks.answer(() -> m.get(i, k)));
                return 1;
            case 5:
            case 6:
            case 7:
                int b = byteFor(random);
                Checks.due(about + "set " + i + " " + k + " " + b, Checks.outcome(() -> x.set(i, k, b)),
                        Checks.outcome(() -> m.set(i, k, b)));
                return 1;
            case 8:
            case 9:
                long v = numberFor(random);
                int scale = random.nextInt(30) == 0 ? 8 * random.nextInt(2) - 1 : random.nextInt(7);
                Checks.due(about + "put " + i + " " + v + " " + scale, Checks.outcome(() -> x.put(i, v, scale)),
                        Checks.outcome(() -> m.put(i, v, scale)));
                return 1;
            case 10:
            case 11:
                Checks.due(about + "value " + i, Checks.answer(() -> x.value(i)), Checks.answer(() -> m.value(i)));
                return 1;
            default:
                Checks.due(about + "move " + i + " " + j, Checks.outcome(() -> x.move(i, j)),
                        Checks.outcome(() -> m.move(i, j)));
                return 1;
        }
    }

    private static int index(Random random, int count) {
        return random.nextInt(25) == 0 || count == 0 ? random.nextInt(12) - 2 : random.nextInt(count);
    }

    private static int byteFor(Random random) {
        String likely = "0123456789-+CRDB *$.,";
        switch (random.nextInt(4)) {
            case 0:
                return random.nextInt(256);
            case 1:
                return random.nextInt(260) - 2;
            default:
                return likely.charAt(random.nextInt(likely.length()));
        }
    }

    private static long numberFor(Random random) {
        long v = random.nextLong() >> random.nextInt(64);
        return random.nextInt(5) == 0 ? v / 1000 * 1000 : v;
    }
}
