/** The document's promises: a test for each sentence with a boundary or a refused call, on both its sides. */
public final class CallBoundaryTest {
    private static final int[] NO_FIELDS = {-1, 3, 8, Integer.MIN_VALUE, Integer.MAX_VALUE};
    private static final int MOST_CALLS = 512;

    private CallBoundaryTest() {
    }

    public static void main(String[] args) {
        promise1NoFieldsAndNothingTyped();
        promise2FalseWhenThereAre24();
        promise2TypedAgainAfterDeclare();
        promise3NothingIsTypedThen();
        promise3BytesOfTheNumber0();
        promise3Refuses9thField();
        promise3RefusesNoPicture();
        promise3RefusesUsage();
        promise4TakesAllFieldsAway();
        promise5CountsFields();
        promise6KindOneHasNoPlaces();
        promise6SignOfEachKind();
        promise6Refuses();
        promise7Refuses();
        promise8Refuses();
        promise9Refuses();
        promise10SameField();
        promise10Refuses();
        promise11ValueWithoutPoint();
        promise11Refuses();
        callsUpTo512();
        Checks.finish("CallBoundaryTest");
    }

    private static void promise1NoFieldsAndNothingTyped() {
        PictureFields x = new PictureFields();
        Checks.due("1: fields", x.fields(), 0);
        Checks.due("1: nothing typed", Checks.answer(() -> x.declare(0)), Checks.ARGUMENT);
        PictureFields y = new PictureFields();
        Checks.due("1: look", Checks.answer(() -> y.look(0, 0)), Checks.ELEMENT);
        Checks.due("1: get", Checks.answer(() -> y.get(0, 0)), Checks.ELEMENT);
        Checks.due("1: set", Checks.outcome(() -> y.set(0, 0, 0)), Checks.ELEMENT);
        Checks.due("1: put", Checks.outcome(() -> y.put(0, 0, 0)), Checks.ELEMENT);
        Checks.due("1: move", Checks.outcome(() -> y.move(0, 0)), Checks.ELEMENT);
        Checks.due("1: value", Checks.answer(() -> y.value(0)), Checks.ELEMENT);
        y.clear();
        Checks.due("1: fields after clear", y.fields(), 0);
        PictureFields z = Checks.with("X(3)");
        Checks.type(z, "9");
        Checks.due("1: objects have nothing in common", new PictureFields().fields(), 0);
        Checks.due("1: one typed character is a picture", Checks.answer(() -> z.declare(0)), "1");
    }

    private static void promise2FalseWhenThereAre24() {
        PictureFields x = new PictureFields();
        for (int k = 1; k <= 24; k++) {
            Checks.due("2: character " + k, x.type('X'), true);
        }
        for (int k = 25; k <= 30; k++) {
            Checks.due("2: character " + k, x.type('X'), false);
        }
        Checks.due("2: the 24 are a picture", Checks.answer(() -> x.declare(0)), "0");
        Checks.due("2: of 24 symbols", x.look(0, 1), 24);
        for (int c : new int[] {0, -1, 255, 256, 'q', '\n', Integer.MIN_VALUE, Integer.MAX_VALUE}) {
            PictureFields y = new PictureFields();
            Checks.due("2: any character, " + c, y.type(c), true);
            y.type('9');
            Checks.due("2: no symbol, " + c, Checks.answer(() -> y.declare(0)), Checks.ARGUMENT);
        }
    }

    private static void promise2TypedAgainAfterDeclare() {
        PictureFields x = new PictureFields();
        Checks.type(x, "X".repeat(24));
        Checks.due("2: full", x.type('X'), false);
        x.declare(0);
        Checks.due("2: after declare", x.type('9'), true);
        Checks.due("2: it alone is typed", Checks.answer(() -> x.declare(0)), "1");
        Checks.due("2: and is the picture", Checks.looks(x, 1), "0 1 1 0 0");
        Checks.type(x, "q".repeat(24));
        Checks.due("2: full again", x.type('X'), false);
        Checks.due("2: no picture", Checks.answer(() -> x.declare(0)), Checks.ARGUMENT);
        Checks.due("2: after no picture", x.type('A'), true);
        Checks.due("2: it alone is typed then", Checks.answer(() -> x.declare(0)), "2");
    }

    private static void promise3NothingIsTypedThen() {
        PictureFields x = Checks.with("X(3)");
        Checks.due("3: nothing is typed", Checks.answer(() -> x.declare(0)), Checks.ARGUMENT);
        Checks.due("3: no part of it is left", Checks.declare(x, "9", 0), "1");
        Checks.due("3: looks", Checks.looks(x, 1), "0 1 1 0 0");
        Checks.due("3: the first is as before", Checks.looks(x, 0), "1 3 0 0 0");
    }

    private static void promise3BytesOfTheNumber0() {
        String[][] wants = {{"9", "0"}, {"S9(3)", "000"}, {"X(3)", "   "}, {"A9", "  "}, {"Z9", " 0"}, {"ZZ", "  "},
            {"**", "**"}, {"*.*", "*.*"}, {"+9", "+0"}, {"-9", " 0"}, {"9+", "0+"}, {"9CR", "0  "}, {"$9", "$0"},
            {"$$9.9", " $0.0"}, {"$$.$", "    "}, {"9B0/,9", "0 0/,0"}};
        for (String[] want : wants) {
            Checks.due("3: new " + want[0], Checks.bytes(Checks.with(want[0]), 0), want[1]);
        }
        Checks.due("3: new packed S99", Checks.hex(Checks.with("S99", 1), 0), "000C");
        Checks.due("3: new packed 99", Checks.hex(Checks.with("99", 1), 0), "000F");
        // A place that had another field before must show nothing of it.
        for (String[] want : wants) {
            PictureFields x = Checks.with("X(24)");
            Checks.setAll(x, 0, "-".repeat(24));
            x.clear();
            Checks.declare(x, "9(12)", 1);
            x.put(0, 987654321, 0);
            x.clear();
            Checks.declare(x, "+Z(9)9.9", 0);
            x.put(0, -987654321, 1);
            x.clear();
            Checks.declare(x, want[0], 0);
            Checks.due("3: new again " + want[0], Checks.bytes(x, 0), want[1]);
        }
    }

    private static void promise3Refuses9thField() {
        PictureFields x = full();
        Checks.due("3: a ninth", Checks.declare(x, "9", 0), Checks.STATE);
        Checks.due("3: a ninth with no usage", Checks.answer(() -> x.declare(2)), Checks.STATE);
        Checks.due("3: there are eight", x.fields(), 8);
        Checks.due("3: the eighth is as before", Checks.looks(x, 7), "1 8 0 0 0");
        Checks.due("3: no ninth", Checks.answer(() -> x.value(8)), Checks.ELEMENT);
        PictureFields y = full();
        Checks.due("3: with nothing typed", Checks.answer(() -> y.declare(0)), Checks.STATE);
        Checks.due("3: with no picture typed", Checks.declare(y, "q", 0), Checks.STATE);
        PictureFields z = full();
        z.clear();
        for (int k = 0; k < 8; k++) {
            Checks.due("3: after clear, number " + k, Checks.declare(z, "9", 0), Integer.toString(k));
        }
        Checks.due("3: a ninth after clear", Checks.declare(z, "9", 0), Checks.STATE);
    }

    /** An object with eight texts, each of one character more than the one before. */
    private static PictureFields full() {
        PictureFields x = new PictureFields();
        for (int k = 0; k < 8; k++) {
            Checks.due("3: number " + k, Checks.declare(x, "X(" + (k + 1) + ")", 0), Integer.toString(k));
        }
        return x;
    }

    private static void promise3RefusesNoPicture() {
        PictureFields x = Checks.with("99");
        x.put(0, 47, 0);
        for (String picture : new String[] {"", "q", "9(", "9(0)", "9(13)", "X(25)", "9Z", "+", "CR"}) {
            Checks.due("3: " + picture, Checks.declare(x, picture, 0), Checks.ARGUMENT);
            Checks.due("3: nothing is typed then", Checks.answer(() -> x.declare(0)), Checks.ARGUMENT);
            Checks.due("3: one field after " + picture, x.fields(), 1);
            Checks.due("3: as before after " + picture, Checks.bytes(x, 0) + Checks.looks(x, 0), "470 2 2 0 0");
        }
        Checks.due("3: a picture after all these", Checks.declare(x, "X", 0), "1");
        // Seven fields and a wrong picture: it is not the state that refuses.
        PictureFields y = new PictureFields();
        for (int k = 0; k < 7; k++) {
            Checks.declare(y, "9", 0);
        }
        Checks.due("3: the eighth, no picture", Checks.declare(y, "q", 0), Checks.ARGUMENT);
        Checks.due("3: the eighth", Checks.declare(y, "X", 0), "7");
    }

    private static void promise3RefusesUsage() {
        for (int usage : new int[] {-1, 2, 3, Integer.MIN_VALUE, Integer.MAX_VALUE}) {
            for (String picture : new String[] {"9", "S9V9", "X", "Z9"}) {
                refusesUsage(picture, usage);
            }
        }
        for (String picture : new String[] {"X", "A", "9X", "Z9", "9.9", "++", "9B"}) {
            refusesUsage(picture, 1);
            Checks.due("3: usage 0 of " + picture, Checks.declare(new PictureFields(), picture, 0), "0");
        }
        for (String picture : new String[] {"9", "S9(3)V99", "P9", "9P", "9V"}) {
            Checks.due("3: usage 0 of " + picture, Checks.declare(new PictureFields(), picture, 0), "0");
            Checks.due("3: usage 1 of " + picture, Checks.declare(new PictureFields(), picture, 1), "0");
        }
    }

    private static void refusesUsage(String picture, int usage) {
        PictureFields x = new PictureFields();
        Checks.due("3: usage " + usage + " of " + picture, Checks.declare(x, picture, usage), Checks.ARGUMENT);
        Checks.due("3: no field then", x.fields(), 0);
        Checks.due("3: nothing is typed then", Checks.answer(() -> x.declare(0)), Checks.ARGUMENT);
    }

    private static void promise4TakesAllFieldsAway() {
        PictureFields x = full();
        x.clear();
        Checks.due("4: fields", x.fields(), 0);
        for (int k = 0; k < 8; k++) {
            int field = k;
            Checks.due("4: field " + k, Checks.answer(() -> x.look(field, 0)), Checks.ELEMENT);
            Checks.due("4: bytes of " + k, Checks.answer(() -> x.get(field, 0)), Checks.ELEMENT);
        }
        x.clear();
        Checks.due("4: of no fields", x.fields(), 0);
        Checks.due("4: the next is number 0", Checks.declare(x, "9", 0), "0");
        Checks.due("4: there is no number 1", Checks.answer(() -> x.value(1)), Checks.ELEMENT);
        PictureFields y = Checks.with("9");
        Checks.type(y, "X(3)");
        y.clear();
        Checks.due("4: fields alone", Checks.answer(() -> y.declare(0)) + Checks.looks(y, 0), "01 3 0 0 0");
    }

    private static void promise5CountsFields() {
        PictureFields x = new PictureFields();
        for (int k = 0; k < 8; k++) {
            Checks.due("5: fields", x.fields(), k);
            Checks.declare(x, "q", 0);
            Checks.due("5: fields after no picture", x.fields(), k);
            Checks.declare(x, "9", 0);
        }
        Checks.due("5: fields", x.fields(), 8);
        Checks.declare(x, "9", 0);
        Checks.due("5: no more than eight", x.fields(), 8);
        x.clear();
        Checks.due("5: none", x.fields(), 0);
    }

    private static void promise6KindOneHasNoPlaces() {
        String label = "6: how many digits before the point, behind it (kind 1: 0)";
        Checks.looks(label, "X", "1 1 0 0 0");
        Checks.looks(label, "9(12)X(12)", "1 24 0 0 0");
        Checks.looks(label, "9(12)", "0 12 12 0 0");
        Checks.looks(label, "V9(12)", "0 12 0 12 0");
        Checks.looks(label, "9(12).", "2 13 12 0 0");
        Checks.looks(label, ".9(12)", "2 13 0 12 0");
        // The place had a field with places and a sign before.
        PictureFields x = Checks.with("S9V99");
        x.clear();
        Checks.declare(x, "+9.99", 0);
        x.clear();
        Checks.declare(x, "XX", 0);
        Checks.due(label + ": after others", Checks.looks(x, 0), "1 2 0 0 0");
    }

    private static void promise6SignOfEachKind() {
        for (String picture : new String[] {"S9", "+9", "-9", "9+", "9-", "9CR", "9DB", "++", "--", "+$9", "$++"}) {
            Checks.due("6: sign of " + picture, Checks.with(picture).look(0, 4), 1);
        }
        for (String picture : new String[] {"9", "X", "Z9", "**", "$9", "$$", "9.9", "9B"}) {
            Checks.due("6: no sign of " + picture, Checks.with(picture).look(0, 4), 0);
        }
    }

    /** Three fields: "12" of 99, "abc" of XXX and "-1.2" of +9.9. */
    private static PictureFields three() {
        PictureFields x = Checks.with("99");
        Checks.declare(x, "XXX", 0);
        Checks.declare(x, "+9.9", 0);
        x.put(0, 12, 0);
        Checks.setAll(x, 1, "abc");
        x.put(2, -12, 1);
        return x;
    }

    private static void areAsBefore(String label, PictureFields x) {
        String all = Checks.bytes(x, 0) + Checks.bytes(x, 1) + Checks.bytes(x, 2);
        Checks.due(label + ": all is as before", all + x.fields(), "12abc-1.23");
    }

    private static void promise6Refuses() {
        PictureFields x = three();
        for (int field : NO_FIELDS) {
            Checks.due("6: field " + field, Checks.answer(() -> x.look(field, 0)), Checks.ELEMENT);
            Checks.due("6: field " + field + ", what 5", Checks.answer(() -> x.look(field, 5)), Checks.ELEMENT);
        }
        for (int what : new int[] {-1, 5, 6, Integer.MIN_VALUE, Integer.MAX_VALUE}) {
            for (int k = 0; k < 3; k++) {
                int field = k;
                Checks.due("6: what " + what, Checks.answer(() -> x.look(field, what)), Checks.ARGUMENT);
            }
        }
        Checks.due("6: what 0", Checks.answer(() -> x.look(2, 0)), "2");
        Checks.due("6: what 4", Checks.answer(() -> x.look(2, 4)), "1");
        Checks.due("6: field 0", Checks.answer(() -> x.look(0, 1)), "2");
    }

    private static void promise7Refuses() {
        PictureFields x = three();
        int[] sizes = {2, 3, 4};
        for (int k = 0; k < 3; k++) {
            int field = k;
            int size = sizes[k];
            for (int wrong : new int[] {-1, size, 25, Integer.MIN_VALUE, Integer.MAX_VALUE}) {
                Checks.due("7: byte " + wrong, Checks.answer(() -> x.get(field, wrong)), Checks.ELEMENT);
            }
        }
        for (int field : NO_FIELDS) {
            Checks.due("7: field " + field, Checks.answer(() -> x.get(field, 0)), Checks.ELEMENT);
        }
        Checks.due("7: first byte", x.get(0, 0), (int) '1');
        Checks.due("7: last byte of 0", x.get(0, 1), (int) '2');
        Checks.due("7: last byte of 1", x.get(1, 2), (int) 'c');
        Checks.due("7: last byte of 2", x.get(2, 3), (int) '2');
        PictureFields y = Checks.with("9(12)", 1);
        Checks.due("7: last packed byte", Checks.answer(() -> y.get(0, 6)), "15");
        Checks.due("7: no packed byte", Checks.answer(() -> y.get(0, 7)), Checks.ELEMENT);
        PictureFields z = Checks.with("9(12)B(11)CR");
        Checks.due("7: byte 24", Checks.answer(() -> z.get(0, 24)), "32");
        Checks.due("7: byte 25", Checks.answer(() -> z.get(0, 25)), Checks.ELEMENT);
        PictureFields w = Checks.with("9V9B");
        Checks.due("7: byte 2, V has none", Checks.answer(() -> w.get(0, 2)), "32");
        Checks.due("7: byte 3, V has none", Checks.answer(() -> w.get(0, 3)), Checks.ELEMENT);
    }

    private static void promise8Refuses() {
        PictureFields x = three();
        for (int v : new int[] {-1, 256, Integer.MIN_VALUE, Integer.MAX_VALUE}) {
            for (int k = 0; k < 3; k++) {
                int field = k;
                Checks.due("8: v " + v, Checks.outcome(() -> x.set(field, 0, v)), Checks.ARGUMENT);
                Checks.due("8: no byte, v " + v, Checks.outcome(() -> x.set(field, 4, v)), Checks.ELEMENT);
            }
        }
        for (int k : new int[] {-1, 2, 25, Integer.MIN_VALUE, Integer.MAX_VALUE}) {
            Checks.due("8: byte " + k, Checks.outcome(() -> x.set(0, k, 0)), Checks.ELEMENT);
        }
        for (int field : NO_FIELDS) {
            Checks.due("8: field " + field, Checks.outcome(() -> x.set(field, 0, 0)), Checks.ELEMENT);
            Checks.due("8: field " + field + ", v 256", Checks.outcome(() -> x.set(field, 0, 256)), Checks.ELEMENT);
        }
        areAsBefore("8", x);
        for (int v = 0; v <= 255; v++) {
            PictureFields y = three();
            y.set(v % 3, 0, v);
            y.set(v % 3, v % 3 + 1, 255 - v);
            Checks.due("8: first byte " + v, y.get(v % 3, 0), v);
            Checks.due("8: last byte " + (255 - v), y.get(v % 3, v % 3 + 1), 255 - v);
        }
    }

    private static void promise9Refuses() {
        PictureFields x = three();
        for (int scale : new int[] {-1, 7, Integer.MIN_VALUE, Integer.MAX_VALUE}) {
            for (int k = 0; k < 3; k++) {
                int field = k;
                Checks.due("9: scale " + scale, Checks.outcome(() -> x.put(field, 1, scale)), Checks.ARGUMENT);
            }
        }
        for (int field : NO_FIELDS) {
            Checks.due("9: field " + field, Checks.outcome(() -> x.put(field, 1, 0)), Checks.ELEMENT);
            Checks.due("9: field " + field + ", scale 7", Checks.outcome(() -> x.put(field, 1, 7)), Checks.ELEMENT);
        }
        for (int k = 0; k <= 6; k++) {
            int scale = k;
            Checks.due("9: a text, scale " + k, Checks.outcome(() -> x.put(1, 1, scale)), Checks.UNSUPPORTED);
        }
        areAsBefore("9", x);
        String[] wants = {"60", "56", "45", "34", "23", "12", "01"};
        for (int scale = 0; scale <= 6; scale++) {
            x.put(0, 1234560, scale);
            Checks.due("9: scale " + scale, Checks.bytes(x, 0), wants[scale]);
        }
    }

    private static void promise10SameField() {
        String label = "10: which may be the same";
        String[][] wants = {{"S9(3)", "ab3", "123"}, {"S9(3)", "abs", "12s"}, {"S9(3)", "12s", "12s"}, {"99", "1r", "12"}, {"9P", "7", "7"},
            {"P9", "7", "7"}, {"X(3)", "a-1", "a-1"}, {"Z9.9", "01.2", " 1.2"}, {"+99", "12-", "-20"}, {"99", "::", "00"},
            {"ZZ", "00", "  "}, {"*.*", "   ", "*.*"}, {"9CR", "1CR", "1CR"}, {"9CR", "0CR", "0  "}, {"$$9", "912", "$12"},
            {"9V9B", "123", "12 "}};
        for (String[] want : wants) {
            PictureFields x = Checks.with(want[0]);
            Checks.setAll(x, 0, want[1]);
            Checks.due(label + ": " + want[0], Checks.outcome(() -> x.move(0, 0)), Checks.DONE);
            Checks.due(label + ": " + want[1] + " of " + want[0], Checks.bytes(x, 0), want[2]);
        }
    }

    private static void promise10Refuses() {
        PictureFields x = three();
        for (int field : NO_FIELDS) {
            Checks.due("10: from " + field, Checks.outcome(() -> x.move(field, 0)), Checks.ELEMENT);
            Checks.due("10: to " + field, Checks.outcome(() -> x.move(0, field)), Checks.ELEMENT);
            Checks.due("10: text to " + field, Checks.outcome(() -> x.move(1, field)), Checks.ELEMENT);
            Checks.due("10: from and to " + field, Checks.outcome(() -> x.move(field, field)), Checks.ELEMENT);
        }
        areAsBefore("10", x);
        Checks.declare(x, "S9V9", 0);
        x.put(3, -15, 1);
        Checks.due("10: refused", Checks.outcome(() -> x.move(3, 1)), Checks.UNSUPPORTED);
        Checks.due("10: neither has changed", Checks.bytes(x, 3) + Checks.bytes(x, 1), "1uabc");
        Checks.due("10: refused, no such field", Checks.outcome(() -> x.move(3, 4)), Checks.ELEMENT);
        // Every other way between kinds is open.
        for (int from = 0; from < 3; from++) {
            for (int to = 0; to < 3; to++) {
                int i = from;
                int j = to;
                Checks.due("10: from " + i + " to " + j, Checks.outcome(() -> x.move(i, j)), Checks.DONE);
            }
        }
    }

    private static void promise11ValueWithoutPoint() {
        String label = "11: all its digits as one number without the point, below 0 when it is";
        Checks.value(label, "9V9", 0, "12", 12);
        Checks.value(label, "V99", 0, "12", 12);
        Checks.value(label, "99V", 0, "12", 12);
        Checks.value(label, "PP99", 0, "12", 12);
        Checks.value(label, "99PP", 0, "12", 1200);
        Checks.value(label, "S9V9", 0, "1r", -12);
        Checks.value(label, "S9V9", 0, "0p", 0);
        Checks.value(label, "9.9-", 0, "1.2-", -12);
        Checks.value(label, "9.9-", 0, "0.0-", 0);
        Checks.value(label, "9.9-", 0, "1.2 ", 12);
        Checks.value(label, "X(3)", 0, "   ", 0);
        Checks.value(label, "X(3)", 0, "-12", 12);
        Checks.value(label, "S9(12)", 1, Checks.unhex("0999999999999D"), -999999999999L);
        Checks.value(label, "S9(12)", 1, Checks.unhex("0999999999999C"), 999999999999L);
    }

    private static void promise11Refuses() {
        PictureFields x = three();
        for (int field : NO_FIELDS) {
            Checks.due("11: field " + field, Checks.answer(() -> x.value(field)), Checks.ELEMENT);
        }
        Checks.due("11: field 0", Checks.answer(() -> x.value(0)), "12");
        Checks.due("11: field 2", Checks.answer(() -> x.value(2)), "-12");
        x.clear();
        Checks.due("11: field 0 after clear", Checks.answer(() -> x.value(0)), Checks.ELEMENT);
    }

    private static void callsUpTo512() {
        PictureFields x = new PictureFields();
        for (int call = 0; call < MOST_CALLS - 8; call += 8) {
            x.type('9');
            x.type('9');
            int field = x.declare(call / 8 % 2);
            x.put(field, call, 0);
            Checks.due("512 calls: value at " + call, x.value(field), (long) (call % 100));
            Checks.due("512 calls: byte at " + call, x.get(field, 0), call / 8 % 2 == 1 ? call / 10 % 10 : 48 + call / 10 % 10);
            Checks.due("512 calls: fields at " + call, x.fields(), 1);
            x.clear();
        }
        Checks.type(x, "X(24)9");
        Checks.due("512 calls: the 511th", Checks.answer(() -> x.declare(0)), Checks.ARGUMENT);
        Checks.due("512 calls: the 512th", x.fields(), 0);

        PictureFields y = new PictureFields();
        for (int call = 1; call < MOST_CALLS; call++) {
            Checks.due("512 calls: type " + call, y.type('X'), call <= 24);
        }
        Checks.due("512 calls: the last is a picture's", Checks.answer(() -> y.declare(0)), "0");
    }
}
