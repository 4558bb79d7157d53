/** The document's Terms on what a picture is: a test for each sentence with a boundary, on both its sides. */
public final class PictureBoundaryTest {
    private static final int NUMBER = 0;
    private static final int TEXT = 1;
    private static final int EDITED = 2;

    private PictureBoundaryTest() {
    }

    public static void main(String[] args) {
        oneTo24Characters();
        smallLettersAreNone();
        numberInParentheses();
        atMost24Symbols();
        letterSignsAreOneSymbol();
        firstKindThatFits();
        perhapsS();
        atLeastOne9();
        atMostOneV();
        scalingBefore();
        scalingBehind();
        numberHasAtMost12Digits();
        textHasALetter();
        trailingSignStandsOnce();
        leadingSignStandsOnce();
        currencyStandsOnce();
        bodyHasOneKindOfFill();
        bodyHasOnePoint();
        notBothSigns();
        noSignsBesideFloatingSign();
        floatingFillsAreAtLeastTwo();
        firstFloatingFillIsNoDigit();
        oneFillBeforeThePoint();
        noNineBeforeAFill();
        behindThePointAllOrNone();
        fillsBehindThePointAllowNoNine();
        editedHasOneTo12Digits();
        Checks.finish("PictureBoundaryTest");
    }

    private static void oneTo24Characters() {
        String label = "1 to 24 characters";
        Checks.areNone(label, "");
        Checks.areOfKind(label, NUMBER, "9");
        Checks.areOfKind(label, TEXT, "X", "A", "X".repeat(23), "X".repeat(24), "X(1)".repeat(6));
        Checks.areOfKind(label, EDITED, "Z", "*", "B".repeat(23) + "9");
        Checks.due(label + ": the 25th is not of it", Checks.looks(Checks.with("X".repeat(24) + "A"), 0), "1 24 0 0 0");
        Checks.looks(label, "9(01)".repeat(4) + "9(2)", "0 6 6 0 0");
        // The number of the last symbol is cut off at 24 characters.
        Checks.areNone(label, "X".repeat(22) + "X(2)", "X".repeat(21) + "X(2)", "9(01)".repeat(4) + "9(02)");
        Checks.looks(label, "X".repeat(20) + "X(2)", "1 22 0 0 0");
    }

    private static void smallLettersAreNone() {
        String label = "small letters are none";
        for (String picture : new String[] {"S9", "V9", "P9", "X", "A", "Z", "9B", "9CR", "9DB"}) {
            Checks.areOfKind(label, Checks.with(picture).look(0, 0), picture);
            Checks.areNone(label, picture.toLowerCase());
        }
        Checks.areNone(label, "9Cr", "9cR", "9Db", "9dB", "Xx", "aA");
    }

    private static void numberInParentheses() {
        String label = "a number of 1 or 2 digits and not 0";
        Checks.looks(label, "X(1)", "1 1 0 0 0");
        Checks.looks(label, "X(9)", "1 9 0 0 0");
        Checks.looks(label, "X(01)", "1 1 0 0 0");
        Checks.looks(label, "X(09)", "1 9 0 0 0");
        Checks.looks(label, "X(10)", "1 10 0 0 0");
        Checks.areNone(label, "X()", "X(0)", "X(00)", "X(001)", "X(012)", "X(-1)", "X(+1)", "X( 1)", "X(1 )", "X(1", "X(",
                "X)", "X1)", "X(1))", "X((1)", "X(1)(1)", "(1)", "(1)X", "()", "X(/)", "X(:)", "X(1/)", "X(1:)", "X(X)");
        Checks.areNone(label, "9(0)9", "XX(0)", "X(0)X", "S(0)9", "9(1)V(0)");
    }

    private static void atMost24Symbols() {
        String label = "expanded it has at most 24 symbols";
        Checks.areOfKind(label, TEXT, "X(23)", "X(24)", "X(12)A(12)", "X(9)X(9)X(6)", "X(23)9", "9X(23)");
        Checks.areNone(label, "X(25)", "X(26)", "X(99)", "X(12)A(13)", "X(12)A(12)9", "X(9)X(9)X(7)", "X(24)X", "XX(24)",
                "X(99)X(99)X(99)X(99)");
        Checks.areOfKind(label, EDITED, "9(12)B(12)", "9(12)VB(11)", "+9(12)B(11)", "9B(23)");
        Checks.areNone(label, "9(12)B(13)", "9(12)VB(12)", "+9(12)B(12)", "9B(24)");
    }

    private static void letterSignsAreOneSymbol() {
        String label = "CR and DB are one symbol each, of two characters, and have no number";
        Checks.looks(label, "9CR", "2 3 1 0 1");
        Checks.looks(label, "9DB", "2 3 1 0 1");
        Checks.looks(label, "9(12)B(11)CR", "2 25 12 0 1");
        Checks.looks(label, "9(12)B(11)DB", "2 25 12 0 1");
        Checks.areNone(label, "9(12)B(12)CR", "9(12)B(12)DB", "9CR(1)", "9DB(1)", "9CR(2)", "9C", "9R", "9D", "9CB", "9DR",
                "9C(1)R", "9RC", "9BD");
    }

    private static void firstKindThatFits() {
        String label = "it is of the first kind that fits";
        Checks.areOfKind(label, NUMBER, "9", "99V99", "9V", "V9");
        Checks.areOfKind(label, TEXT, "X9", "9A", "99X");
        Checks.areOfKind(label, EDITED, "9.9", "9V9B", "09", "9-");
        Checks.areNone(label, "X.", "XB", "A+", "S9.9", "S9B", "9P.", "ZP", "SZ", "XZ", "XV9", "X0");
    }

    private static void perhapsS() {
        String label = "perhaps S, then 9, P and V";
        Checks.looks(label, "9", "0 1 1 0 0");
        Checks.looks(label, "S9", "0 1 1 0 1");
        Checks.looks(label, "S(1)9", "0 1 1 0 1");
        Checks.areNone(label, "SS9", "S(2)9", "9S", "VS9", "PS9", "9S9");
    }

    private static void atLeastOne9() {
        String label = "with at least one 9";
        Checks.areNone(label, "S", "V", "P", "SV", "SP", "VP", "PV", "SVP", "P(12)");
        Checks.areOfKind(label, NUMBER, "9", "S9", "V9", "P9", "SV9", "SP9", "VP9", "PV9", "SVP9", "P(11)9");
    }

    private static void atMostOneV() {
        String label = "at most one V";
        Checks.areOfKind(label, NUMBER, "99", "V99", "9V9", "99V", "SV9", "S9V", "9V(1)9");
        Checks.areNone(label, "VV9", "V9V", "9VV", "9VV9", "9V9V", "9V(2)9", "VPV9", "9VPV");
    }

    private static void scalingBefore() {
        String label = "all P stand together before all 9, with V perhaps before or behind them";
        Checks.looks(label, "P9", "0 1 0 2 0");
        Checks.looks(label, "VP9", "0 1 0 2 0");
        Checks.looks(label, "PV9", "0 1 0 2 0");
        Checks.looks(label, "SPPV99", "0 2 0 4 1");
        Checks.areNone(label, "P9V", "P9V9", "PVP9", "PP9P", "P9P9", "PPV9P");
    }

    private static void scalingBehind() {
        String label = "or together behind all 9 (V, if there, behind the 9s or behind the P)";
        Checks.looks(label, "9P", "0 1 2 0 0");
        Checks.looks(label, "9VP", "0 1 2 0 0");
        Checks.looks(label, "9PV", "0 1 2 0 0");
        Checks.looks(label, "S99VPP", "0 2 4 0 1");
        Checks.areNone(label, "V9P", "9V9P", "9PVP", "9P9", "9PV9", "9VP9");
    }

    private static void numberHasAtMost12Digits() {
        String label = "a number has at most 12 digits (its 9s and P together)";
        Checks.areOfKind(label, NUMBER, "9(11)", "9(12)", "S9(12)", "V9(12)", "9(12)V", "9(6)V9(6)", "S9V9(11)", "9(11)P",
                "9P(11)", "P9(11)", "P(11)9", "SVP(6)9(6)", "9(6)P(6)V");
        Checks.areNone(label, "9(13)", "S9(13)", "V9(13)", "9(13)V", "9(6)V9(7)", "9(7)V9(6)", "S9V9(12)", "9(12)P",
                "9P(12)", "P9(12)", "P(12)9", "SVP(6)9(7)", "9(7)P(6)V", "9(24)");
    }

    private static void textHasALetter() {
        String label = "X, A and 9 alone, with at least one X or A";
        Checks.areOfKind(label, TEXT, "X", "A", "XA", "9X", "X9", "9(23)X", "A9(23)", "9(12)A");
        Checks.areOfKind(label, NUMBER, "9(12)");
        Checks.areNone(label, "9(13)", "9(24)", "XS", "SX", "X,", "A/", "X CR", "XCR", "A0", "$X");
    }

    private static void trailingSignStandsOnce() {
        String label = "if the last symbol is CR or DB, or is + or - and does not stand anywhere else";
        Checks.looks(label, "9+", "2 2 1 0 1");
        Checks.looks(label, "9-", "2 2 1 0 1");
        Checks.looks(label, "ZZCR", "2 4 2 0 1");
        Checks.looks(label, "ZZDB", "2 4 2 0 1");
        Checks.looks(label, "++", "2 2 1 0 1");
        Checks.areNone(label, "+9+", "-9-", "9++", "9--", "9CRCR", "9DBDB", "9CRDB", "CR9", "9DB9", "9CRB", "9+B", "9B+B",
                "CR", "DB", "+", "-");
    }

    private static void leadingSignStandsOnce() {
        String label = "if the first one of the rest is + or - and does not stand elsewhere in the rest";
        Checks.looks(label, "+9", "2 2 1 0 1");
        Checks.looks(label, "-9", "2 2 1 0 1");
        Checks.looks(label, "+$9", "2 3 1 0 1");
        Checks.looks(label, "++9", "2 3 2 0 1");
        Checks.areNone(label, "B+9", "$+9", "9+9", "+9+9", "++9+", "0-9");
    }

    private static void currencyStandsOnce() {
        String label = "if the first one of the rest then is $ and does not stand elsewhere in it";
        Checks.looks(label, "$9", "2 2 1 0 0");
        Checks.looks(label, "$Z", "2 2 1 0 0");
        Checks.looks(label, "-$9", "2 3 1 0 1");
        Checks.looks(label, "$++", "2 3 1 0 1");
        Checks.looks(label, "$.9", "2 3 0 1 0");
        Checks.looks(label, "$$9", "2 3 2 0 0");
        Checks.areNone(label, "$", "B$9", "9$", "$9$", "$Z$", "$Z$$", ".$9", "$$Z", "+$", "$CR");
    }

    private static void bodyHasOneKindOfFill() {
        String label = "one kind of fill among Z * + - $, or none";
        Checks.areOfKind(label, EDITED, "9B", "ZZ", "**", "++", "--", "$$", "$ZZ", "+**", "$--", "-$$");
        Checks.areNone(label, "Z*", "*Z", "++--", "--++", "$$++", "Z$$", "**--", "Z.*", "$$.++", "++ZZ", "$ZZ$");
    }

    private static void bodyHasOnePoint() {
        String label = "one . or V or neither";
        Checks.looks(label, "ZZ9", "2 3 3 0 0");
        Checks.looks(label, "Z.9", "2 3 1 1 0");
        Checks.looks(label, "ZV9", "2 2 1 1 0");
        Checks.areNone(label, "Z..9", "Z.9.", "Z.V9", "ZV.9", "ZVV9", "ZV9V", ".9V", "9.V");
    }

    private static void notBothSigns() {
        String label = "not both signs are there";
        Checks.areOfKind(label, EDITED, "+9", "9-", "-9", "9+", "9CR", "9DB", "+$Z", "$Z-");
        Checks.areNone(label, "+9-", "-9+", "+9CR", "-9DB", "+$Z-", "-$ZCR");
    }

    private static void noSignsBesideFloatingSign() {
        String label = "and none if the fill is + or -";
        Checks.areOfKind(label, EDITED, "++9", "--9", "$$9-", "+$$9", "ZZ9CR", "-**9");
        Checks.areNone(label, "++9-", "--9+", "++9CR", "--9DB", "-++9", "+--9", "--CR", "++DB");
    }

    private static void floatingFillsAreAtLeastTwo() {
        String label = "of fills +, - or $ there are at least two";
        Checks.areOfKind(label, EDITED, "++", "--", "$$", "B++", "B--9", "B$$9", "+.+", "$,$", "B+(2)B", "Z", "*", "BZ", "*9");
        Checks.areNone(label, "B+B9", "B-9", "B$9", "B$", "$+9", "$-", "9B$", "0+B9", "B$(1)9");
    }

    private static void firstFloatingFillIsNoDigit() {
        String label = "the first one is no digit, all others are";
        Checks.looks(label, "$$", "2 2 1 0 0");
        Checks.looks(label, "$$$", "2 3 2 0 0");
        Checks.looks(label, "$.$", "2 3 0 1 0");
        Checks.looks(label, "++.++", "2 5 1 2 1");
        Checks.looks(label, "--9", "2 3 2 0 1");
        Checks.looks(label, "ZZ", "2 2 2 0 0");
        Checks.looks(label, "*.*", "2 3 1 1 0");
    }

    private static void oneFillBeforeThePoint() {
        String label = "if there are fills, one stands before the point";
        Checks.areOfKind(label, EDITED, "Z.Z", "ZVZ", "*.**", "$.$", "+V+", "-.--", "Z.", "Z,.9", ".9", "V9B");
        Checks.areNone(label, ".Z", "VZ", ".**", ".$$", "V++", ".--", "B.ZZ", "9.ZZ", ".$$9", "0V**");
    }

    private static void noNineBeforeAFill() {
        String label = "before the point no 9 stands before a fill";
        Checks.areOfKind(label, EDITED, "Z9", "*9.", "$$9", "++99", "--9V9", "ZB9", "Z/99");
        Checks.areNone(label, "9Z", "9*.", "9$$", "$9$", "+9+9", "Z9Z", "9BZ", "Z9Z.9", "9Z9");
    }

    private static void behindThePointAllOrNone() {
        String label = "behind it all digits are fills or none is";
        Checks.areOfKind(label, EDITED, "Z.ZZ", "Z.99", "$$.$$", "$$.99", "*V**", "*V99", "Z.00", "Z.", "Z.B", "Z.Z0");
        Checks.areNone(label, "Z.Z9", "Z.9Z", "Z.9ZZ", "Z.ZZ9", "$$.$9", "$$.9$", "*V*9", "*V9*", "++.+9");
    }

    private static void fillsBehindThePointAllowNoNine() {
        String label = "if they are, no 9 stands anywhere";
        Checks.areOfKind(label, EDITED, "ZZ.Z", "Z9.9", "Z9.", "$$$.$", "$$9.9", "Z9.0");
        Checks.areNone(label, "Z9.Z", "$$9.$", "*9V*", "--9.-", "Z99.ZZ");
    }

    private static void editedHasOneTo12Digits() {
        String label = "there is at least one digit, at most 12";
        Checks.areNone(label, "B", "0", "/", ",", ".", "0.0", "+", "+$", "$CR", "+B", "$0.00", "B(24)");
        Checks.areOfKind(label, EDITED, "9B", "Z", "*", "++", "$$", "$.$", "9.", ".9", "9CR", "+$9");
        Checks.areOfKind(label, EDITED, "9(12)B", "Z(12)", "*(12)", "$(13)", "+(13)", "Z(6).Z(6)", "Z(6)9(6)", "$(7).$(6)",
                "Z(11).9", "9.9(11)", ".9(12)", "9(12).", "0(11)9(12)");
        Checks.areNone(label, "9(13)B", "Z(13)", "*(13)", "$(14)", "+(14)", "Z(7).Z(6)", "Z(6)9(7)", "$(8).$(6)",
                "Z(12).9", "9.9(12)", ".9(13)", "9(13).", "0(11)9(13)");
    }
}
