import static java.lang.Long.MAX_VALUE;
import static java.lang.Long.MIN_VALUE;

/** Each promise of the document by itself: ordinary inputs, the edges it names, wrong inputs. */
public final class PromiseTest {
    private static final String ARGUMENT = Checks.ARGUMENT;
    private static final String STATE = Checks.STATE;
    private static final String ELEMENT = Checks.ELEMENT;
    private static final String UNSUPPORTED = Checks.UNSUPPORTED;

    private PromiseTest() {
    }

    public static void main(String[] args) {
        promise1NewObject();
        promise2Type();
        promise3Declare();
        promise3Symbols();
        promise3Numbers();
        promise3Texts();
        promise3EditedPictures();
        promise3NewBytes();
        promise4Clear();
        promise5Fields();
        promise6Look();
        promise7Get();
        promise8Set();
        promise9PutNumber();
        promise9PutPacked();
        promise9PutLongs();
        promise9PutEdited();
        promise9PutZone();
        promise9PutAllZero();
        promise9PutRefused();
        promise10MoveNumbers();
        promise10MoveFromEdited();
        promise10MoveTexts();
        promise10MoveRefused();
        promise11Value();
        Checks.finish("PromiseTest");
    }

    private static void promise1NewObject() {
        PictureFields x = new PictureFields();
        Checks.due("1: fields", x.fields(), 0);
        Checks.due("1: nothing is typed", Checks.answer(() -> x.declare(0)), ARGUMENT);
    }

    private static void promise2Type() {
        PictureFields x = new PictureFields();
        for (int k = 0; k < 24; k++) {
            Checks.due("2: type " + k, x.type('9'), true);
        }
        Checks.due("2: the 25th", x.type('9'), false);
        Checks.due("2: the 26th", x.type(-1), false);

        PictureFields y = new PictureFields();
        Checks.due("2: no character of a picture", y.type('q'), true);
        Checks.due("2: below zero", y.type(-1), true);
        Checks.due("2: it is no picture then", Checks.answer(() -> y.declare(0)), ARGUMENT);
        PictureFields z = new PictureFields();
        Checks.due("2: a large character", z.type(65536 + '9'), true);
        Checks.due("2: it is no 9", Checks.answer(() -> z.declare(0)), ARGUMENT);
        for (int c : new int[] {-1, 0, 32, 127, 255, 65536 + 'X', Integer.MIN_VALUE, Integer.MAX_VALUE}) {
            PictureFields v = Checks.with("X");
            v.type('9');
            v.type(c);
            Checks.due("2: 9 and " + c, Checks.answer(() -> v.declare(0)), ARGUMENT);
        }
        PictureFields w = new PictureFields();
        Checks.type(w, "X".repeat(24));
        w.type('q');
        Checks.due("2: what was refused is not typed", Checks.answer(() -> w.declare(0)), "0");
    }

    private static void promise3Declare() {
        PictureFields x = new PictureFields();
        for (int k = 0; k < 8; k++) {
            Checks.due("3: number " + k, Checks.declare(x, "9", k % 2), Integer.toString(k));
            Checks.due("3: fields then", x.fields(), k + 1);
        }
        Checks.due("3: a ninth", Checks.declare(x, "X", 0), STATE);
        Checks.due("3: a ninth, no picture", Checks.declare(x, "q", 5), STATE);
        Checks.due("3: still eight", x.fields(), 8);
        PictureFields y = new PictureFields();
        Checks.due("3: no picture", Checks.declare(y, "9q", 0), ARGUMENT);
        Checks.due("3: nothing typed after it", Checks.declare(y, "X", 0), "0");
        Checks.due("3: nothing typed after a field", Checks.answer(() -> y.declare(0)), ARGUMENT);
        Checks.due("3: usage 1 for a text", Checks.declare(y, "X", 1), ARGUMENT);
        Checks.due("3: usage 1 for an edited one", Checks.declare(y, "Z9", 1), ARGUMENT);
        Checks.due("3: usage 2", Checks.declare(y, "9", 2), ARGUMENT);
        Checks.due("3: usage -1", Checks.declare(y, "9", -1), ARGUMENT);
        Checks.due("3: nothing typed after a wrong usage", Checks.declare(y, "9", 1), "1");
        Checks.due("3: fields", y.fields(), 2);
        PictureFields z = new PictureFields();
        for (int k = 0; k < 8; k++) {
            Checks.declare(z, "9", 0);
        }
        Checks.declare(z, "X(3)", 0);
        z.clear();
        Checks.due("3: what was typed stays when there are eight", Checks.answer(() -> z.declare(0)), "0");
        Checks.due("3: and is the picture", Checks.looks(z, 0), "1 3 0 0 0");
    }

    private static void promise3Symbols() {
        String[] none = {"", "s9", "x", "9 ", "9(", "9()", "9(0)", "9(00)", "9(1", "9(1(", "9(123)", "9(a)", "9(1a)",
            "9(-1)", "(2)9", "9(1)(1)", "9)", "C", "D", "9C", "9D", "9R", "9CB", "9DR", "9CR(1)", "9DB(1)", "9C(1)R",
            "X(25)", "X(24)A", "9(12)B(12)CR", "9(12)B(13)", "CR", "DB", "9CRCR", "9DBCR"};
        Checks.areNone("3", none);
        PictureFields x = Checks.with("9(12)");
        Checks.due("3: what stood behind it is no part of it", Checks.declare(x, "9(12", 0), ARGUMENT);
        Checks.declare(x, "9(1)", 0);
        Checks.due("3: nor here", Checks.declare(x, "9(1", 0), ARGUMENT);
        looks("9(2)", "0 2 2 0 0");
        looks("9(02)", "0 2 2 0 0");
        looks("9(12)", "0 12 12 0 0");
        looks("S(1)9(01)V(1)9", "0 2 1 1 1");
        looks("X(24)", "1 24 0 0 0");
        looks("9(12)B(11)CR", "2 25 12 0 1");
        looks("9(12)B(11)DB", "2 25 12 0 1");
        looks("9(12)B(12)", "2 24 12 0 0");
        looks("9DB", "2 3 1 0 1");
        looks("9B(2)DB", "2 5 1 0 1");
    }

    private static void promise3Numbers() {
        String[] none = {"S", "V", "P", "SV", "VP", "S9S", "9S", "SS9", "S(2)9", "9V9V", "VV9", "PVP9", "9PVP", "P9V",
            "P9V9", "9P9", "P9P", "V9P", "9V9P", "VPV9", "9VPV", "V9PP", "PP", "9(13)", "9(12)P", "P9(12)", "9(7)V9(6)",
            "S9(13)", "VP(12)9"};
        Checks.areNone("3", none);
        looks("9", "0 1 1 0 0");
        looks("S9(3)V99", "0 5 3 2 1");
        looks("V99", "0 2 0 2 0");
        looks("99V", "0 2 2 0 0");
        looks("SV9", "0 1 0 1 1");
        looks("PP9", "0 1 0 3 0");
        looks("VPP9", "0 1 0 3 0");
        looks("PPV9", "0 1 0 3 0");
        looks("SVPP99", "0 2 0 4 1");
        looks("9PP", "0 1 3 0 0");
        looks("9VPP", "0 1 3 0 0");
        looks("9PPV", "0 1 3 0 0");
        looks("S9(10)PP", "0 10 12 0 1");
        looks("P(11)9", "0 1 0 12 0");
        looks("S9(6)V9(6)", "0 12 6 6 1");
        Checks.due("3: packed, even", Checks.looks(Checks.with("9(4)", 1), 0), "0 3 4 0 0");
        Checks.due("3: packed, odd", Checks.looks(Checks.with("S9(5)", 1), 0), "0 3 5 0 1");
        Checks.due("3: packed with P", Checks.looks(Checks.with("99P(2)", 1), 0), "0 2 4 0 0");
        Checks.due("3: packed, one", Checks.looks(Checks.with("9", 1), 0), "0 1 1 0 0");
        Checks.due("3: packed, twelve", Checks.looks(Checks.with("9(12)", 1), 0), "0 7 12 0 0");
    }

    private static void promise3Texts() {
        String[] none = {"XS", "XV", "XZ", "XB", "X.", "AP", "9(23)XX", "X0"};
        Checks.areNone("3", none);
        looks("X", "1 1 0 0 0");
        looks("A", "1 1 0 0 0");
        looks("9X", "1 2 0 0 0");
        looks("A9X9", "1 4 0 0 0");
        looks("9(23)X", "1 24 0 0 0");
    }

    private static void promise3EditedPictures() {
        String[] none = {"+", "-", "$", "+$", "++$", "B", "0", ".", ",", "/", "B0/,.", "+9-", "-9+", "+9+9", "+ZCR",
            "-9DB", "$+9", "$-9", "B+9", "B$9", "9$", "9+B", "9$B", "$9$", "9Z", "9*", "9++", "Z*", "Z$$", "Z+Z", "++--",
            "$$--", "ZP", "ZS9", "ZX", "9.9.", "9.9V", "9V.9", "ZVVZ", ".Z", ".ZZ", "V**", ".$$", ".++9", "Z9.Z", "Z.9Z",
            "Z.Z9", "ZZ.9ZZ", "$9.$", "++-", "-++", "--9+", "--CR", "++DB", "+--9", "9.9Z", "9Z.99", "Z(13)", "9(13)B",
            "9CRB", "CR9", "9DB9", "$(14)", "Z(7).Z(6)", "9,Z", "$Z$", "+(1)-(1)9"};
        Checks.areNone("3", none);
        looks("9.", "2 2 1 0 0");
        looks(".9", "2 2 0 1 0");
        looks("9B", "2 2 1 0 0");
        looks("09", "2 2 1 0 0");
        looks("V9B", "2 2 0 1 0");
        looks("Z9.", "2 3 2 0 0");
        looks("++", "2 2 1 0 1");
        looks("--", "2 2 1 0 1");
        looks("$$", "2 2 1 0 0");
        looks("Z", "2 1 1 0 0");
        looks("*", "2 1 1 0 0");
        looks("+9", "2 2 1 0 1");
        looks("9-", "2 2 1 0 1");
        looks("$9", "2 2 1 0 0");
        looks("+$9", "2 3 1 0 1");
        looks("$9+", "2 3 1 0 1");
        looks("-$$9", "2 4 2 0 1");
        looks("$++9", "2 4 2 0 1");
        looks("$$9CR", "2 5 2 0 1");
        looks("$.$$", "2 4 0 2 0");
        looks("$$.$$", "2 5 1 2 0");
        looks("ZZV99", "2 4 2 2 0");
        looks("ZVZ", "2 2 1 1 0");
        looks("+ZZ9.99", "2 7 3 2 1");
        looks("$(13)", "2 13 12 0 0");
        looks("Z(6).Z(6)", "2 13 6 6 0");
        looks("ZZ.00", "2 5 2 0 0");
        looks("B0/,Z", "2 5 1 0 0");
        looks("Z/9,9", "2 5 3 0 0");
    }

    private static void promise3NewBytes() {
        Checks.due("3: new number", Checks.bytes(Checks.with("S9(3)"), 0), "000");
        Checks.due("3: new packed", Checks.hex(Checks.with("S9(3)", 1), 0), "000C");
        Checks.due("3: new packed without sign", Checks.hex(Checks.with("9(4)", 1), 0), "00000F");
        Checks.due("3: new text", Checks.bytes(Checks.with("9X"), 0), "  ");
        Checks.due("3: new edited", Checks.bytes(Checks.with("+Z,Z99.9"), 0), "+   00.0");
        Checks.due("3: new suppressed", Checks.bytes(Checks.with("$ZZ.ZZ"), 0), "      ");
        PictureFields x = Checks.with("X(3)");
        Checks.setAll(x, 0, "abc");
        x.clear();
        Checks.declare(x, "X(3)", 0);
        Checks.due("3: new after clear", Checks.bytes(x, 0), "   ");
    }

    private static void promise4Clear() {
        PictureFields x = Checks.with("9");
        Checks.declare(x, "X", 0);
        Checks.type(x, "Z9");
        x.clear();
        Checks.due("4: fields", x.fields(), 0);
        Checks.due("4: field 0 is gone", Checks.answer(() -> x.value(0)), ELEMENT);
        Checks.due("4: what was typed stays", Checks.answer(() -> x.declare(0)), "0");
        Checks.due("4: numbers begin anew", Checks.looks(x, 0), "2 2 2 0 0");
        x.clear();
        x.clear();
        Checks.due("4: twice", x.fields(), 0);
    }

    private static void promise5Fields() {
        PictureFields x = new PictureFields();
        Checks.due("5: none", x.fields(), 0);
        Checks.declare(x, "9", 0);
        Checks.due("5: one", x.fields(), 1);
        Checks.declare(x, "q", 0);
        Checks.due("5: no picture, no field", x.fields(), 1);
        Checks.declare(x, "+9", 0);
        Checks.due("5: two", x.fields(), 2);
    }

    private static void promise6Look() {
        PictureFields x = Checks.with("S9(3)V99");
        Checks.declare(x, "X(5)", 0);
        Checks.declare(x, "$ZZ9.99", 0);
        Checks.declare(x, "--9V9", 0);
        Checks.due("6: number", Checks.looks(x, 0), "0 5 3 2 1");
        Checks.due("6: text", Checks.looks(x, 1), "1 5 0 0 0");
        Checks.due("6: edited without sign", Checks.looks(x, 2), "2 7 3 2 0");
        Checks.due("6: edited with a floating sign", Checks.looks(x, 3), "2 4 2 1 1");
        Checks.due("6: what 5", Checks.answer(() -> x.look(0, 5)), ARGUMENT);
        Checks.due("6: what -1", Checks.answer(() -> x.look(0, -1)), ARGUMENT);
        Checks.due("6: field 4", Checks.answer(() -> x.look(4, 0)), ELEMENT);
        Checks.due("6: field -1", Checks.answer(() -> x.look(-1, 0)), ELEMENT);
        Checks.due("6: both are wrong", Checks.answer(() -> x.look(4, 9)), ELEMENT);
    }

    private static void promise7Get() {
        PictureFields x = Checks.with("99");
        x.put(0, 47, 0);
        Checks.due("7: byte 0", x.get(0, 0), (int) '4');
        Checks.due("7: byte 1", x.get(0, 1), (int) '7');
        Checks.due("7: byte 2", Checks.answer(() -> x.get(0, 2)), ELEMENT);
        Checks.due("7: byte -1", Checks.answer(() -> x.get(0, -1)), ELEMENT);
        Checks.due("7: field 1", Checks.answer(() -> x.get(1, 0)), ELEMENT);
        Checks.due("7: field -1", Checks.answer(() -> x.get(-1, 0)), ELEMENT);
        Checks.due("7: the 25th byte", Checks.with("9(12)B(11)CR").get(0, 24), (int) ' ');
    }

    private static void promise8Set() {
        PictureFields x = Checks.with("XX");
        x.set(0, 0, 0);
        x.set(0, 1, 255);
        Checks.due("8: 0", x.get(0, 0), 0);
        Checks.due("8: 255", x.get(0, 1), 255);
        Checks.due("8: 256", Checks.outcome(() -> x.set(0, 0, 256)), ARGUMENT);
        Checks.due("8: -1", Checks.outcome(() -> x.set(0, 0, -1)), ARGUMENT);
        Checks.due("8: byte 2", Checks.outcome(() -> x.set(0, 2, 1)), ELEMENT);
        Checks.due("8: byte -1", Checks.outcome(() -> x.set(0, -1, 1)), ELEMENT);
        Checks.due("8: field 1", Checks.outcome(() -> x.set(1, 0, 1)), ELEMENT);
        Checks.due("8: byte and value are wrong", Checks.outcome(() -> x.set(0, 2, 256)), ELEMENT);
        Checks.due("8: nothing has changed", Checks.hex(x, 0), "00FF");
    }

    private static void promise9PutNumber() {
        put("9(3)V99", -123456, 3, "12345");
        put("S9(3)V99", -123456, 3, "1234u");
        put("S9(3)V99", 123456, 3, "12345");
        put("S9(3)", -7, 0, "00w");
        put("S9(3)", 98765, 0, "765");
        put("S9(3)", -1000, 0, "000");
        put("S9V9", -4, 2, "00");
        put("V99", 12345, 3, "34");
        put("99PP", 123456, 0, "34");
        put("S99PP", -123456, 0, "3t");
        put("S9PP", -99, 0, "0");
        put("S9PP", -199, 0, "q");
        put("VPP9", 1234, 4, "3");
        put("PP99", 123456, 6, "34");
        put("SP9", -14, 2, "t");
        put("SP9", -10, 2, "0");
        put("SP9", -1, 3, "0");
        put("9(12)", 123456789012345L, 0, "456789012345");
        put("9(6)V9(6)", 123456789012345L, 6, "456789012345");
        put("V9(12)", 1, 6, "000001000000");
    }

    private static void promise9PutPacked() {
        putPacked("S9(5)", -12345, "12345D");
        putPacked("S9(5)", 12345, "12345C");
        putPacked("9(5)", -12345, "12345F");
        putPacked("S9(4)", -12345, "02345D");
        putPacked("S9(4)", -120000, "00000C");
        putPacked("9", 8, "8F");
        putPacked("S99PP", -123456, "034D");
        putPacked("S9(12)", -123456789012L, "0123456789012D");
    }

    private static void promise9PutLongs() {
        put("9(12)", MAX_VALUE, 0, "036854775807");
        put("S9(12)", MIN_VALUE, 0, "03685477580x");
        put("9(6)V9(6)", MAX_VALUE, 6, "036854775807");
        put("S9(6)V9(6)", MIN_VALUE, 6, "03685477580x");
        put("-9(12)", MIN_VALUE, 6, "-223372036854");
        put("S9P(11)", MIN_VALUE, 0, "0");
        put("S9P(10)", MIN_VALUE, 0, "s");
    }

    private static void promise9PutEdited() {
        put("9B9/9,909", 12345, 0, "1 2/3,405");
        put("99.99", 12345, 3, "12.34");
        put("99V99", 12345, 3, "1234");
        put("99V99B", 12345, 3, "1234 ");
        put("+99", 5, 0, "+05");
        put("+99", -5, 0, "-05");
        put("+99", -500, 0, "+00");
        put("-99", 5, 0, " 05");
        put("-99", -5, 0, "-05");
        put("99+", 5, 0, "05+");
        put("99+", -5, 0, "05-");
        put("99-", 5, 0, "05 ");
        put("99-", -5, 0, "05-");
        put("99CR", 5, 0, "05  ");
        put("99CR", -5, 0, "05CR");
        put("99DB", -5, 0, "05DB");
        put("99DB", -100, 0, "00  ");
        put("99VCR", -5, 0, "05CR");
        put("99", -5, 0, "05");
        put("$99.9", -55, 1, "$05.5");
        put("+$99", -55, 0, "-$55");
        put("-$99", 55, 0, " $55");
        put("$99-", -55, 0, "$55-");
        put("9(12)B(11)DB", -1, 0, "000000000001           DB");
    }

    private static void promise9PutZone() {
        put("ZZZ9", 42, 0, "  42");
        put("ZZZ9", 0, 0, "   0");
        put("ZZZ9", 1234, 0, "1234");
        put("Z,ZZ9", 42, 0, "   42");
        put("Z,ZZ9", 1042, 0, "1,042");
        put("*,**9.99", 4205, 2, "***42.05");
        put("ZZ.99", 5, 2, "  .05");
        put("ZZ.ZZ", 5, 2, "  .05");
        put("ZZVZZ", 5, 2, "  05");
        put("**.**", 5, 2, "**.05");
        put("BZZ9", 1, 0, "   1");
        put("0ZZ9", 1, 0, "0  1");
        put("/,ZZ9", 1, 0, "/,  1");
        put("ZZB/9", 1, 0, "    1");
        put("ZZB/Z", 100, 0, "10 /0");
        put("ZZ,.99", 1, 2, "   .01");
        put("ZZ.00", 5, 0, " 5.00");
        put("$$$,$$9.99", 12345, 2, "   $123.45");
        put("$$$,$$9.99", 1234567, 2, "$12,345.67");
        put("$$,$$9.99", 100000, 2, "$1,000.00");
        put("$,$$9", 123, 0, " $123");
        put("$$.99", 5, 2, " $.05");
        put("$.$$", 5, 2, "$.05");
        put("$$B9", 5, 0, "  $5");
        put("++++", 5, 0, "  +5");
        put("++++", -5, 0, "  -5");
        put("+++9", 0, 0, "  +0");
        put("----", 5, 0, "   5");
        put("----", -5, 0, "  -5");
        put("----", -1234, 0, "-234");
        put("--9", -100, 0, "  0");
        put("$++9", -5, 0, "$ -5");
        put("+$$9", -5, 0, "- $5");
        put("$**9CR", -5, 0, "$**5CR");
        put("B++9", 5, 0, "  +5");
        put("+(4)9B9/9", -7, 0, "   -0 0/7");
    }

    private static void promise9PutAllZero() {
        put("ZZZ", 0, 0, "   ");
        put("ZZ.ZZ", 0, 0, "     ");
        put("ZZ.99", 0, 0, "  .00");
        put("ZZ.ZZ", 4, 3, "     ");
        put("0/Z,Z", 0, 0, "     ");
        put("+$ZZ", 0, 0, "    ");
        put("ZZ+", 0, 0, "   ");
        put("ZZCR", 0, 0, "    ");
        put("++", 0, 0, "  ");
        put("$$.$$", 0, 0, "     ");
        put("***", 0, 0, "***");
        put("*,***.**", 0, 0, "*****.**");
        put("**V**", 0, 0, "****");
        put("+$*,*B/0.**", 0, 0, "********.**");
        put("**.**CR", 0, 0, "**.****");
        put("**9", 0, 0, "**0");
        put("ZZ.00", 0, 0, "     ");
    }

    private static void promise9PutRefused() {
        PictureFields x = Checks.with("99");
        Checks.declare(x, "X(3)", 0);
        x.put(0, 12, 0);
        Checks.due("9: scale 7", Checks.outcome(() -> x.put(0, 1, 7)), ARGUMENT);
        Checks.due("9: scale -1", Checks.outcome(() -> x.put(0, 1, -1)), ARGUMENT);
        Checks.due("9: scale 6", Checks.outcome(() -> x.put(0, 12000000, 6)), Checks.DONE);
        Checks.due("9: a text", Checks.outcome(() -> x.put(1, 1, 0)), UNSUPPORTED);
        Checks.due("9: a text and scale 7", Checks.outcome(() -> x.put(1, 1, 7)), ARGUMENT);
        Checks.due("9: field 2", Checks.outcome(() -> x.put(2, 1, 7)), ELEMENT);
        Checks.due("9: field -1", Checks.outcome(() -> x.put(-1, 1, 0)), ELEMENT);
        Checks.due("9: nothing has changed", Checks.bytes(x, 0) + Checks.bytes(x, 1), "12   ");
    }

    private static void promise10MoveNumbers() {
        move("S9(3)V99", 0, "1234u", "S9(4)V9", 1, "01234D");
        move("S9(3)V99", 0, "1234u", "9V999", "3450");
        move("S9(3)V99", 0, "1234u", "$$$,$$9.99-", "   $123.45-");
        move("S99PP", 0, "3t", "S9(5)", "0340p");
        move("VPP9", 0, "7", "9V9(4)", "00070");
        move("V9(12)", 0, "123456789012", "9(12)", "000000000000");
        move("9(12)", 0, "123456789012", "V9(12)", "000000000000");
        move("SV9(12)", 0, "12345678901r", "S9V9(11)", "01234567890q");
        move("9(12)", 0, "123456789012", "9P(11)", "1");
        move("99", 0, Checks.unhex("FF4C"), "99", "52");
        move("S9(3)", 1, Checks.unhex("123B"), "-9(3)", "-123");
        move("S9(3)", 1, Checks.unhex("123D"), "-9(3)", "-123");
        move("S9(3)", 1, Checks.unhex("123A"), "-9(3)", " 123");
        move("9(3)", 1, Checks.unhex("123D"), "-9(3)", " 123");
        move("9(4)", 1, Checks.unhex("51234F"), "9(5)", "01234");
        move("9(3)", 0, Checks.unhex("313273"), "-9(3)", " 123");
        PictureFields x = Checks.with("S9(3)");
        Checks.setAll(x, 0, "abp");
        x.move(0, 0);
        Checks.due("10: to itself", Checks.bytes(x, 0), "12p");
    }

    private static void promise10MoveFromEdited() {
        move("$$$,$$9.99-", 0, "   $123.45-", "S9(3)V99", "1234u");
        move("ZZ9.99CR", 0, "  1.05CR", "S9V99", "10u");
        move("ZZ9.99CR", 0, "  1.05C ", "S9V99", "105");
        move("ZZ9.99CR", 0, "  1.05 R", "S9V99", "105");
        move("ZZ9.99CR", 0, "  1.05DB", "S9V99", "105");
        move("ZZ9.99CR", 0, "- 1.05  ", "S9V99", "10u");
        move("99DB", 0, "12DB", "S99", "1r");
        move("99DB", 0, "12CR", "S99", "12");
        move("9/9", 0, "1-2", "S99", "1r");
        move("90909", 0, "17283", "9(3)", "123");
        move("9(3)", 0, "a1b", "9(3)", "112");
        move("9B9B9", 0, Checks.unhex("6120312000"), "9(3)", "010");
        move("$$$", 0, "789", "9(3)", "089");
        move("99V99B", 0, "1234 ", "99.9", "12.3");
        move("**.**", 0, "**.05", "$$.$$", " $.05");
        PictureFields x = Checks.with("++9");
        Checks.setAll(x, 0, "-34");
        x.move(0, 0);
        Checks.due("10: edited to itself", Checks.bytes(x, 0), "-34");
        Checks.setAll(x, 0, "3 -");
        x.move(0, 0);
        Checks.due("10: edited anew", Checks.bytes(x, 0), " +0");
    }

    private static void promise10MoveTexts() {
        move("X(3)", 0, "abc", "X(5)", "abc  ");
        move("X(5)", 0, "abcde", "A9X", "abc");
        move("+99.9", 0, "+12.3", "X(6)", "+12.3 ");
        move("+99.9", 0, Checks.unhex("00FF616263"), "X(4)", Checks.unhex("00FF6162"));
        move("9(4)", 0, "0056", "X(5)", "0056 ");
        move("9(4)", 0, "1256", "X(3)", "125");
        move("S99P(2)", 1, Checks.unhex("034D"), "X(6)", "3400  ");
        move("S9(3)", 0, "12s", "X(3)", "123");
        move("9(12)B(11)CR", 0, "123456789012           CR", "X(24)", "123456789012           C");
        move("X(5)", 0, "12a45", "9(5)", "12045");
        move("X(5)", 0, "12a4-", "S9(5)V9", "120400");
        move("X(5)", 0, " 7  5", "$$$,$$9.99", " $7,005.00");
        move("X(14)", 0, "98123456789012", "9(12)", "123456789012");
        move("X(13)", 0, "9 23456789012", "9(12)", "023456789012");
        PictureFields x = Checks.with("X(3)");
        Checks.setAll(x, 0, "abc");
        x.move(0, 0);
        Checks.due("10: text to itself", Checks.bytes(x, 0), "abc");
    }

    private static void promise10MoveRefused() {
        PictureFields x = Checks.with("9V9");
        Checks.declare(x, "X(3)", 0);
        Checks.declare(x, "VP9", 0);
        Checks.declare(x, "99V", 0);
        Checks.declare(x, "9.9", 0);
        Checks.setAll(x, 1, "abc");
        Checks.due("10: places behind the point", Checks.outcome(() -> x.move(0, 1)), UNSUPPORTED);
        Checks.due("10: all places behind the point", Checks.outcome(() -> x.move(2, 1)), UNSUPPORTED);
        Checks.due("10: nothing has changed", Checks.bytes(x, 1), "abc");
        Checks.due("10: no places behind the point", Checks.outcome(() -> x.move(3, 1)), Checks.DONE);
        Checks.due("10: edited", Checks.outcome(() -> x.move(4, 1)), Checks.DONE);
        Checks.due("10: from field 5", Checks.outcome(() -> x.move(5, 1)), ELEMENT);
        Checks.due("10: to field 5", Checks.outcome(() -> x.move(0, 5)), ELEMENT);
        Checks.due("10: from field -1", Checks.outcome(() -> x.move(-1, 0)), ELEMENT);
        Checks.due("10: to field -1", Checks.outcome(() -> x.move(0, -1)), ELEMENT);
    }

    private static void promise11Value() {
        value("S9(3)V99", 0, "1234u", -12345);
        value("S9(3)V99", 0, "12345", 12345);
        value("9(3)V99", 0, "1234u", 12345);
        value("S9", 0, "p", 0);
        value("99PP", 0, "34", 3400);
        value("SP(2)9", 0, "s", -3);
        value("9(3)", 0, Checks.unhex("3F0A0B"), 501);
        value("S9(3)", 1, Checks.unhex("FBCD"), -512);
        value("S9(4)", 1, Checks.unhex("91234B"), -1234);
        value("S9(12)", 1, Checks.unhex("0999999999999D"), -999999999999L);
        value("9(12)", 0, "999999999999", 999999999999L);
        value("ZZ9.99CR", 0, "  1.05CR", -105);
        value("ZZ9.99", 0, " -1.05", -105);
        value("ZZ.ZZ", 0, "     ", 0);
        value("$**9", 0, "$*12", 12);
        value("X(5)", 0, "00567", 567);
        value("X(5)", 0, "-56  ", 5600);
        value("X(14)", 0, "98123456789012", 123456789012L);
        PictureFields x = Checks.with("9");
        Checks.due("11: field 1", Checks.answer(() -> x.value(1)), ELEMENT);
        Checks.due("11: field -1", Checks.answer(() -> x.value(-1)), ELEMENT);
    }

    private static void looks(String picture, String want) {
        Checks.looks("3", picture, want);
    }

    private static void put(String picture, long v, int scale, String want) {
        Checks.put("9", picture, v, scale, want);
    }

    private static void putPacked(String picture, long v, String want) {
        Checks.putPacked("9", picture, v, want);
    }

    private static void move(String from, int usage, String bytes, String to, String want) {
        move(from, usage, bytes, to, 0, want);
    }

    /** Moves between two new fields; a packed one's bytes are wanted as hexadecimal digits. */
    private static void move(String from, int usage, String bytes, String to, int toUsage, String want) {
        PictureFields x = Checks.with(from, usage);
        Checks.declare(x, to, toUsage);
        Checks.setAll(x, 0, bytes);
        x.move(0, 1);
        String got = toUsage == 1 ? Checks.hex(x, 1) : Checks.bytes(x, 1);
        Checks.due("10: move " + bytes + " of " + from + " to " + to, got, want);
        Checks.due("10: " + from + " is as before", Checks.bytes(x, 0), bytes);
    }

    private static void value(String picture, int usage, String bytes, long want) {
        Checks.value("11", picture, usage, bytes, want);
    }
}
