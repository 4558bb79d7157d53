/** The document's Terms on bytes, values and moves: a test for each sentence with a boundary, on both its sides. */
public final class MoveBoundaryTest {
    private MoveBoundaryTest() {
    }

    public static void main(String[] args) {
        scaledDigitsAreNotKept();
        belowZeroTheLastByteIs64More();
        packedBytesAreFilled();
        packedSigns();
        pointThatIsHiddenHasNoByte();
        digitsAreModuloTen();
        bit64SaysBelowZero();
        elevenAndThirteenSayBelowZero();
        digitsWithoutPlacesGo();
        placesWithoutDigitsAre0();
        scaledPlacesBecome0();
        numberOfTheLargestSize();
        belowZeroIfTheNumberWas();
        belowZeroIfWhatIsLeftIsNot0();
        belowZeroIfItHasASign();
        zoneEndsAtADigit();
        zoneEndsAtA9();
        zoneEndsAtThePoint();
        zoneHasTheInsertionsBehindItsStart();
        floatingStandsAtTheZonesEnd();
        allDigits0();
        allDigits0WithStars();
        longestFields();
        signsOfAllSorts();
        readsDigitsInTheirPlaces();
        readsAMinusAnywhere();
        readsBothLetters();
        textIsFilledOrCutOff();
        numberToTextWithoutSign();
        numberToTextRefused();
        lastTwelveCharacters();
        Checks.finish("MoveBoundaryTest");
    }

    private static void scaledDigitsAreNotKept() {
        String label = "P are digits that are always 0 and not kept";
        Checks.looks(label, "P(11)9", "0 1 0 12 0");
        Checks.looks(label, "9P(11)", "0 1 12 0 0");
        Checks.value(label, "9P(11)", 0, "9", 900000000000L);
        Checks.value(label, "9(11)P", 0, "99999999999", 999999999990L);
        Checks.value(label, "P(11)9", 0, "9", 9);
        Checks.value(label, "S9P", 0, "y", -90);
        Checks.due(label + ": packed", Checks.looks(Checks.with("9P(11)", 1), 0), "0 1 12 0 0");
    }

    private static void belowZeroTheLastByteIs64More() {
        String label = "below zero the last one is 64 more";
        Checks.put(label, "S9", 0, 0, "0");
        Checks.put(label, "S9", 1, 0, "1");
        Checks.put(label, "S9", -1, 0, "q");
        Checks.put(label, "S9", -9, 0, "y");
        Checks.put(label, "S99", -90, 0, "9p");
        Checks.put(label, "S9V9", -90, 1, "9p");
        Checks.put(label, "S9(12)", -999999999999L, 0, "99999999999y");
    }

    private static void packedBytesAreFilled() {
        String label = "a 0 comes before the digits, if it takes that to fill the bytes";
        Checks.putPacked(label, "9", 9, "9F");
        Checks.putPacked(label, "99", 99, "099F");
        Checks.putPacked(label, "9(3)", 999, "999F");
        Checks.putPacked(label, "9(11)", 99999999999L, "99999999999F");
        Checks.putPacked(label, "9(12)", 999999999999L, "0999999999999F");
        Checks.putPacked(label, "9(12)", 1999999999999L, "0999999999999F");
        // That 0 is no digit: what stands there later is not read.
        Checks.value(label, "99", 1, Checks.unhex("999F"), 99);
        Checks.value(label, "9(3)", 1, Checks.unhex("999F"), 999);
    }

    private static void packedSigns() {
        String label = "12 for S and not below zero, 13 below zero, 15 without S";
        Checks.putPacked(label, "S9", 1, "1C");
        Checks.putPacked(label, "S9", 0, "0C");
        Checks.putPacked(label, "S9", -1, "1D");
        Checks.putPacked(label, "S9", -10, "0C");
        Checks.putPacked(label, "9", 1, "1F");
        Checks.putPacked(label, "9", 0, "0F");
        Checks.putPacked(label, "9", -1, "1F");
    }

    private static void pointThatIsHiddenHasNoByte() {
        String label = "a byte for each character of the expanded picture (V has none)";
        Checks.looks(label, "9.9", "2 3 1 1 0");
        Checks.looks(label, "B9V9", "2 3 1 1 0");
        Checks.put(label, "B9V9/", 12, 1, " 12/");
        Checks.put(label, "VB9", 1, 1, " 1");
        Checks.put(label, "B9V", 1, 0, " 1");
        Checks.put(label, "9VCR", -1, 0, "1CR");
        Checks.put(label, "9V-", -1, 0, "1-");
    }

    private static void digitsAreModuloTen() {
        String label = "each byte's lower four bits, each modulo 10";
        for (int bits = 0; bits < 256; bits++) {
            PictureFields x = Checks.with("9");
            x.set(0, 0, bits);
            Checks.due(label + ": byte " + bits, x.value(0), (long) (bits % 16 % 10));
            PictureFields y = Checks.with("9", 1);
            y.set(0, 0, bits);
            Checks.due(label + ": packed byte " + bits, y.value(0), (long) (bits / 16 % 10));
        }
    }

    private static void bit64SaysBelowZero() {
        String label = "below zero if S is there and the last byte has bit 64";
        for (int bits = 0; bits < 256; bits++) {
            long digit = bits % 16 % 10;
            PictureFields x = Checks.with("S9");
            x.set(0, 0, bits);
            Checks.due(label + ": byte " + bits, x.value(0), bits / 64 % 2 == 1 ? -digit : digit);
        }
        Checks.value(label, "S99", 0, "q2", 12);
        Checks.value(label, "S99", 0, "1r", -12);
        Checks.value(label, "99", 0, "1r", 12);
        Checks.value(label, "S99", 0, "0p", 0);
    }

    private static void elevenAndThirteenSayBelowZero() {
        String label = "or the last four bits are 11 or 13";
        for (int bits = 0; bits < 16; bits++) {
            PictureFields x = Checks.with("S9", 1);
            x.set(0, 0, 7 * 16 + bits);
            Checks.due(label + ": sign " + bits, x.value(0), bits == 11 || bits == 13 ? -7L : 7L);
            PictureFields y = Checks.with("9", 1);
            y.set(0, 0, 7 * 16 + bits);
            Checks.due(label + ": without S " + bits, y.value(0), 7L);
        }
        Checks.value(label, "S9(3)", 1, Checks.unhex("1B3C"), 113);
    }

    private static void digitsWithoutPlacesGo() {
        String label = "those for which the field has no places go (on both sides)";
        Checks.put(label, "99", 99, 0, "99");
        Checks.put(label, "99", 100, 0, "00");
        Checks.put(label, "99", 199, 0, "99");
        Checks.put(label, "9V9", 99, 1, "99");
        Checks.put(label, "9V9", 999, 2, "99");
        Checks.put(label, "9V9", 9999, 2, "99");
        Checks.put(label, "V99", 99, 2, "99");
        Checks.put(label, "V99", 100, 2, "00");
        Checks.put(label, "V99", 9, 3, "00");
        Checks.put(label, "P9", 99, 2, "9");
        Checks.put(label, "9P", 99, 0, "9");
        Checks.put(label, "9.9", 12345, 3, "2.3");
        Checks.put(label, "ZZ9", 1002, 0, "  2");
        Checks.put(label, "++", 123, 0, "+3");
        Checks.put(label, "$.$", 129, 2, "$.2");
        Checks.move(label, "9(3)V9(3)", "123456", "9V9", "34");
        Checks.move(label, "9.99", "1.23", "V9", "2");
        Checks.move(label, "X(3)", "123", "99V9", "230");
    }

    private static void placesWithoutDigitsAre0() {
        String label = "places without a digit become 0";
        Checks.put(label, "9(3)", 12, 0, "012");
        Checks.put(label, "9V9(7)", 1, 6, "00000010");
        Checks.put(label, "9(12)", 1, 0, "000000000001");
        Checks.put(label, "V9(12)", 1, 6, "000001000000");
        Checks.put(label, "9.99", 1, 0, "1.00");
        Checks.move(label, "V9", "5", "99V99", "0050");
        Checks.move(label, "9P", "5", "9(3)V9", "0500");
        Checks.move(label, "V9(12)", "123456789012", "9(12)", "000000000000");
        Checks.move(label, "9(12)", "123456789012", "V9(12)", "000000000000");
    }

    private static void scaledPlacesBecome0() {
        String label = "P become 0";
        Checks.put(label, "9P", 19, 0, "1");
        Checks.put(label, "9P", 9, 0, "0");
        Checks.put(label, "P9", 91, 2, "1");
        Checks.put(label, "P9", 90, 2, "0");
        Checks.put(label, "9P(11)", 999999999999L, 0, "9");
        Checks.put(label, "9P(11)", 99999999999L, 0, "0");
        Checks.put(label, "P(5)9", 999999, 6, "9");
        Checks.put(label, "P(6)9", 999999, 6, "0");
        Checks.put(label, "P(11)9", Long.MAX_VALUE, 6, "0");
    }

    private static void numberOfTheLargestSize() {
        String label = "the largest and the smallest number";
        Checks.put(label, "S9(12)", Long.MAX_VALUE, 0, "036854775807");
        Checks.put(label, "S9(12)", Long.MIN_VALUE, 0, "03685477580x");
        Checks.put(label, "S9(12)", Long.MIN_VALUE + 1, 0, "03685477580w");
        Checks.put(label, "-9(12)", Long.MAX_VALUE, 6, " 223372036854");
        Checks.put(label, "-9(12)", Long.MIN_VALUE, 6, "-223372036854");
        Checks.put(label, "S9P(11)", 8999999999999999999L, 0, "9");
        Checks.put(label, "9(12)", 1000000000000L, 0, "000000000000");
        Checks.put(label, "9(12)", 999999999999L, 0, "999999999999");
        Checks.putPacked(label, "S9(12)", Long.MIN_VALUE, "0036854775808D");
        Checks.value(label, "S9(12)", 0, "99999999999y", -999999999999L);
        Checks.value(label, "9(12)", 0, "999999999999", 999999999999L);
    }

    private static void belowZeroIfTheNumberWas() {
        String label = "the field is below zero if the number was";
        Checks.put(label, "S9", -1, 0, "q");
        Checks.put(label, "S9", 0, 0, "0");
        Checks.put(label, "S9", 1, 0, "1");
        Checks.put(label, "9-", -1, 0, "1-");
        Checks.put(label, "9-", 1, 0, "1 ");
        Checks.move(label, "S9", "q", "9-", "1-");
        Checks.move(label, "9", "q", "9-", "1 ");
        Checks.move(label, "9-", "1-", "S9", "q");
    }

    private static void belowZeroIfWhatIsLeftIsNot0() {
        String label = "what is left is not 0";
        Checks.put(label, "S99", -99, 0, "9y");
        Checks.put(label, "S99", -100, 0, "00");
        Checks.put(label, "S99", -101, 0, "0q");
        Checks.put(label, "S9V9", -1, 1, "0q");
        Checks.put(label, "S9V9", -1, 2, "00");
        Checks.put(label, "S9P", -10, 0, "q");
        Checks.put(label, "S9P", -9, 0, "0");
        Checks.put(label, "SP9", -1, 2, "q");
        Checks.put(label, "SP9", -1, 1, "0");
        Checks.put(label, "99-", -99, 0, "99-");
        Checks.put(label, "99-", -100, 0, "00 ");
        Checks.put(label, "9.9CR", -1, 1, "0.1CR");
        Checks.put(label, "9.9CR", -1, 2, "0.0  ");
        Checks.put(label, "++9", -100, 0, " +0");
        Checks.put(label, "++9", -101, 0, " -1");
        Checks.move(label, "S9", "p", "9-", "0 ");
        Checks.move(label, "S9", "p", "S9", "0");
    }

    private static void belowZeroIfItHasASign() {
        String label = "and it has a sign (kind 0) or some sign symbol (kind 2)";
        Checks.put(label, "S9", -1, 0, "q");
        Checks.put(label, "9", -1, 0, "1");
        Checks.put(label, "+9", -1, 0, "-1");
        Checks.put(label, "9+", -1, 0, "1-");
        Checks.put(label, "++", -1, 0, "-1");
        Checks.put(label, "--", -1, 0, "-1");
        Checks.put(label, "9DB", -1, 0, "1DB");
        Checks.put(label, "Z9", -1, 0, " 1");
        Checks.put(label, "$9", -1, 0, "$1");
        Checks.put(label, "$$", -1, 0, "$1");
        Checks.put(label, "9.9", -11, 1, "1.1");
    }

    private static void zoneEndsAtADigit() {
        String label = "up to the first digit that is not 0";
        Checks.put(label, "ZZZ", 1, 0, "  1");
        Checks.put(label, "ZZZ", 10, 0, " 10");
        Checks.put(label, "ZZZ", 100, 0, "100");
        Checks.put(label, "***", 1, 0, "**1");
        Checks.put(label, "***", 100, 0, "100");
        Checks.put(label, "$$$", 1, 0, " $1");
        Checks.put(label, "$$$", 10, 0, "$10");
        Checks.put(label, "ZZ.ZZ", 1010, 2, "10.10");
        Checks.put(label, "ZZ.ZZ", 100, 2, " 1.00");
    }

    private static void zoneEndsAtA9() {
        String label = "or a 9";
        Checks.put(label, "ZZ9", 0, 0, "  0");
        Checks.put(label, "ZZ99", 0, 0, "  00");
        Checks.put(label, "**9", 0, 0, "**0");
        Checks.put(label, "++9", 0, 0, " +0");
        Checks.put(label, "--9", 0, 0, "  0");
        Checks.put(label, "$$9", 0, 0, " $0");
        Checks.put(label, "ZZ,9", 0, 0, "   0");
        Checks.put(label, "ZZ9,9", 0, 0, "  0,0");
        Checks.put(label, "9B9", 0, 0, "0 0");
    }

    private static void zoneEndsAtThePoint() {
        String label = "or the point, whichever comes first (not with them)";
        Checks.put(label, "ZZ.99", 0, 0, "  .00");
        Checks.put(label, "ZZ.ZZ", 1, 2, "  .01");
        Checks.put(label, "**.**", 1, 2, "**.01");
        Checks.put(label, "$$.$$", 1, 2, " $.01");
        Checks.put(label, "$.$$", 1, 2, "$.01");
        Checks.put(label, "--.--", -1, 2, " -.01");
        Checks.put(label, "ZZVZZ", 1, 2, "  01");
        Checks.put(label, "$$V$$", 1, 2, " $01");
        Checks.put(label, "$V$$", 1, 2, "$01");
        Checks.put(label, "Z.B9", 0, 0, " . 0");
        Checks.put(label, "Z9.99", 0, 0, " 0.00");
    }

    private static void zoneHasTheInsertionsBehindItsStart() {
        String label = "from the first digit or fill of the body (with the insertions between and behind)";
        Checks.put(label, "0Z9", 0, 0, "0 0");
        Checks.put(label, "/Z9", 0, 0, "/ 0");
        Checks.put(label, ",**9", 0, 0, ",**0");
        Checks.put(label, "Z0Z/9", 1, 0, "    1");
        Checks.put(label, "Z0Z/9", 11, 0, "  1/1");
        Checks.put(label, "Z0Z/9", 101, 0, "100/1");
        Checks.put(label, "*B*,9", 1, 0, "****1");
        Checks.put(label, "ZZ,.9", 1, 1, "   .1");
        Checks.put(label, "Z9,B", 1, 0, " 1, ");
        Checks.put(label, "ZZ/", 1, 0, " 1/");
        Checks.put(label, "+Z9", 1, 0, "+ 1");
        Checks.put(label, "$Z9", 1, 0, "$ 1");
    }

    private static void floatingStandsAtTheZonesEnd() {
        String label = "a floating sign or currency stands in the zone's last character";
        Checks.put(label, "$$$9", 1, 0, "  $1");
        Checks.put(label, "$$$9", 1000, 0, "  $0");
        Checks.put(label, "$$$9", 991, 0, "$991");
        Checks.put(label, "$,$$9", 1, 0, "   $1");
        Checks.put(label, "$,$$9", 991, 0, " $991");
        Checks.put(label, "$$,$9", 991, 0, "$9,91");
        Checks.put(label, "$$,$9", 91, 0, "  $91");
        Checks.put(label, "$$,.9", 1, 1, "  $.1");
        Checks.put(label, "++0/9", -1, 0, "   -1");
        Checks.put(label, "--B9", 1, 0, "   1");
        Checks.put(label, "--B9", -1, 0, "  -1");
        Checks.put(label, "B$$9", 1, 0, "  $1");
        Checks.put(label, "/$$9", 91, 0, "/$91");
    }

    private static void allDigits0() {
        String label = "if no digit is a 9 and all digits are 0, the whole field is blank";
        Checks.put(label, "ZZ", 0, 0, "  ");
        Checks.put(label, "ZZ", 1, 0, " 1");
        Checks.put(label, "ZZ", 100, 0, "  ");
        Checks.put(label, "Z9", 0, 0, " 0");
        Checks.put(label, "Z.Z", 0, 0, "   ");
        Checks.put(label, "Z.9", 0, 0, " .0");
        Checks.put(label, "Z.Z", 1, 2, "   ");
        Checks.put(label, "Z.Z", 1, 1, " .1");
        Checks.put(label, "+$Z/0B,.", 0, 0, "        ");
        Checks.put(label, "+$Z/0B,.", 1, 0, "+$1/0 ,.");
        Checks.put(label, "+$9/0B,.", 0, 0, "+$0/0 ,.");
        Checks.put(label, "0/ZCR", -10, 0, "     ");
        Checks.put(label, "0/ZCR", -1, 0, "0/1CR");
        Checks.put(label, "Z+", 0, 0, "  ");
        Checks.put(label, "Z+", 1, 0, "1+");
        Checks.put(label, "++", 0, 0, "  ");
        Checks.put(label, "++", 1, 0, "+1");
        Checks.put(label, "++9", 0, 0, " +0");
        Checks.put(label, "$$.$", 0, 0, "    ");
        Checks.put(label, "$$.$", 1, 1, " $.1");
        Checks.due(label + ": new", Checks.bytes(Checks.with("+$Z.Z"), 0), "     ");
    }

    private static void allDigits0WithStars() {
        String label = "with fill * all but a . becomes *";
        Checks.put(label, "**", 0, 0, "**");
        Checks.put(label, "**", 1, 0, "*1");
        Checks.put(label, "*9", 0, 0, "*0");
        Checks.put(label, "*.*", 0, 0, "*.*");
        Checks.put(label, "*.*", 1, 1, "*.1");
        Checks.put(label, "*V*", 0, 0, "**");
        Checks.put(label, "*V*", 1, 1, "*1");
        Checks.put(label, "*.", 0, 0, "*.");
        Checks.put(label, "*.9", 0, 0, "*.0");
        Checks.put(label, "+$0*,*.*", 0, 0, "******.*");
        Checks.put(label, "+$0*,*.*", 1, 1, "+$0***.1");
        Checks.put(label, "*.*CR", 0, 0, "*.***");
        Checks.put(label, "*.*CR", -1, 1, "*.1CR");
        Checks.put(label, "*.*CR", -1, 2, "*.***");
        Checks.put(label, "*-", 0, 0, "**");
        Checks.due(label + ": new", Checks.bytes(Checks.with("$*,*.*B"), 0), "****.**");
    }

    private static void longestFields() {
        String label = "a field of 24 symbols";
        Checks.put(label, "Z(12)B(12)", 0, 0, " ".repeat(24));
        Checks.put(label, "Z(12)B(11)CR", 0, 0, " ".repeat(25));
        Checks.put(label, "Z(12)/(11)CR", -1, 0, " ".repeat(11) + "1///////////CR");
        Checks.put(label, "*(12)B(12)", 0, 0, "*".repeat(24));
        Checks.put(label, "*(12)B(11)CR", 0, 0, "*".repeat(25));
        Checks.put(label, "*(12)B(11).", 0, 0, "*".repeat(23) + ".");
        Checks.put(label, "$(13)B(11)", 0, 0, " ".repeat(24));
        Checks.put(label, "$(13)B(11)", 1, 0, " ".repeat(11) + "$1" + " ".repeat(11));
        Checks.put(label, "B(11)+(13)", -1, 0, " ".repeat(22) + "-1");
        Checks.put(label, "+$/(9)Z(12)V", 1, 0, "+$/////////" + " ".repeat(11) + "1");
        Checks.put(label, "9(12)VB(10)DB", -1, 0, "000000000001" + " ".repeat(10) + "DB");
    }

    private static void signsOfAllSorts() {
        String label = "+ is + or, below zero, -; - is a blank or -; CR and DB are two blanks unless below zero";
        String[][] wants = {{"+9", "-1", "+0", "+1"}, {"9+", "1-", "0+", "1+"}, {"-9", "-1", " 0", " 1"},
            {"9-", "1-", "0 ", "1 "}, {"9CR", "1CR", "0  ", "1  "}, {"9DB", "1DB", "0  ", "1  "},
            {"++9", " -1", " +0", " +1"}, {"--9", " -1", "  0", "  1"}, {"++", "-1", "  ", "+1"}, {"--", "-1", "  ", " 1"}};
        for (String[] want : wants) {
            for (int v = -1; v <= 1; v++) {
                Checks.put(label, want[0], v, 0, want[v + 2]);
            }
        }
    }

    private static void readsDigitsInTheirPlaces() {
        String label = "each 0 to 9 in the place of a digit (the others, and all that is no digit there, count as 0)";
        for (int c = 0; c < 256; c++) {
            PictureFields x = Checks.with("9B");
            x.set(0, 0, c);
            Checks.due(label + ": " + c, x.value(0), c >= 48 && c <= 57 ? c - 48L : 0L);
        }
        Checks.value(label, "9B9", 0, "192", 12);
        Checks.value(label, "909", 0, "192", 12);
        Checks.value(label, "9.9", 0, "192", 12);
        Checks.value(label, "+$9", 0, "991", 1);
        Checks.value(label, "9+", 0, "19", 1);
        Checks.value(label, "$$9", 0, "912", 12);
        Checks.value(label, "ZZ9", 0, "912", 912);
        Checks.value(label, "9V9B", 0, "123", 12);
        Checks.value(label, "Z(12)", 0, "999999999999", 999999999999L);
        Checks.value(label, "$(13)", 0, "9999999999999", 999999999999L);
        Checks.move(label, "9V9B", "123", "99V99", "0120");
        Checks.move(label, "ZZ.ZZ", "     ", "99V99", "0000");
    }

    private static void readsAMinusAnywhere() {
        String label = "below zero if a - stands anywhere";
        Checks.value(label, "99-", 0, "12-", -12);
        Checks.value(label, "99-", 0, "12 ", 12);
        Checks.value(label, "99-", 0, "12+", 12);
        Checks.value(label, "+99", 0, "-12", -12);
        Checks.value(label, "++9", 0, " -2", -2);
        Checks.value(label, "9B9", 0, "1-2", -12);
        Checks.value(label, "99.9", 0, "-2.3", -23);
        Checks.value(label, "9.9", 0, "1.-", -10);
        Checks.value(label, "9.", 0, "--", 0);
        Checks.value(label, "9CR", 0, "1 -", -1);
        Checks.value(label, "9CR", 0, "1- ", -1);
        Checks.value(label, "9B", 0, "1,", 1);
        Checks.value(label, "9B", 0, "1.", 1);
        Checks.move(label, "9B9", "1-2", "99-", "12-");
        Checks.move(label, "9B9", "1-2", "99", "12");
        Checks.move(label, "X(3)", "1-2", "9(3)-", "102 ");
    }

    private static void readsBothLetters() {
        String label = "or, with CR or DB, both letters stand in their place";
        Checks.value(label, "9CR", 0, "1CR", -1);
        Checks.value(label, "9CR", 0, "1C ", 1);
        Checks.value(label, "9CR", 0, "1 R", 1);
        Checks.value(label, "9CR", 0, "1RC", 1);
        Checks.value(label, "9CR", 0, "1cr", 1);
        Checks.value(label, "9CR", 0, "1DB", 1);
        Checks.value(label, "9CR", 0, "1  ", 1);
        Checks.value(label, "9DB", 0, "1DB", -1);
        Checks.value(label, "9DB", 0, "1D ", 1);
        Checks.value(label, "9DB", 0, "1 B", 1);
        Checks.value(label, "9DB", 0, "1CR", 1);
        Checks.value(label, "9BB", 0, "1CR", 1);
        Checks.value(label, "9BBCR", 0, "1CR  ", 1);
        Checks.value(label, "9VCR", 0, "1CR", -1);
        Checks.value(label, "9(12)B(11)CR", 0, "999999999999           CR", -999999999999L);
        Checks.move(label, "9CR", "0CR", "9-", "0 ");
        Checks.move(label, "9CR", "1CR", "9-", "1-");
    }

    private static void textIsFilledOrCutOff() {
        String label = "the characters, from the left, blanks behind them or cut off";
        Checks.move(label, "X(3)", "abc", "X(2)", "ab");
        Checks.move(label, "X(3)", "abc", "X(3)", "abc");
        Checks.move(label, "X(3)", "abc", "X(4)", "abc ");
        Checks.move(label, "X", "a", "X(24)", "a" + " ".repeat(23));
        Checks.move(label, "X(24)", "abcdefghijklmnopqrstuvwx", "X", "a");
        Checks.move(label, "X(24)", "abcdefghijklmnopqrstuvwx", "A(24)", "abcdefghijklmnopqrstuvwx");
        Checks.move(label, "+9.9", "-1.2", "X(3)", "-1.");
        Checks.move(label, "+9.9", "-1.2", "X(4)", "-1.2");
        Checks.move(label, "+9.9", "-1.2", "X(5)", "-1.2 ");
        Checks.move(label, "9CR", "1CR", "X(2)", "1C");
        Checks.move(label, "9V9B", "123", "X(4)", "123 ");
        Checks.move(label, "9(12)B(11)CR", "123456789012abcdefghijkCR", "X(24)", "123456789012abcdefghijkC");
        Checks.move(label, "X(2)", Checks.unhex("00FF"), "X(3)", Checks.unhex("00FF20"));
        PictureFields x = Checks.with("X(4)");
        Checks.declare(x, "X(2)", 0);
        Checks.setAll(x, 0, "abcd");
        x.move(1, 0);
        Checks.due(label + ": what stood there is gone", Checks.bytes(x, 0), "    ");
    }

    private static void numberToTextWithoutSign() {
        String label = "its digits as characters, without sign (P as 0), likewise";
        Checks.move(label, "S99", "1r", "X", "1");
        Checks.move(label, "S99", "1r", "XX", "12");
        Checks.move(label, "S99", "1r", "X(3)", "12 ");
        Checks.move(label, "9(3)", "007", "X(3)", "007");
        Checks.move(label, "9P", "7", "X", "7");
        Checks.move(label, "9P", "7", "XX", "70");
        Checks.move(label, "9P", "7", "X(3)", "70 ");
        Checks.move(label, "9P(11)", "7", "X(13)", "700000000000 ");
        Checks.move(label, "9(12)", "999999999999", "X(12)", "999999999999");
        Checks.move(label, "99", Checks.unhex("FA2F"), "XX", "05");
    }

    private static void numberToTextRefused() {
        String label = "it is refused if it has places behind the point";
        String[] refused = {"9V9", "V9", "P9", "VP9", "PV9", "S9(11)V9", "SV9(12)", "P(11)9"};
        for (String picture : refused) {
            Checks.due(label + ": " + picture, moveToText(picture, 0), Checks.UNSUPPORTED + " abc");
            Checks.due(label + ": packed " + picture, moveToText(picture, 1), Checks.UNSUPPORTED + " abc");
        }
        String[] done = {"99", "9V", "9P", "9VP", "9PV", "S99V", "9(12)V"};
        for (String picture : done) {
            Checks.due(label + ": " + picture, moveToText(picture, 0).substring(0, 6), Checks.DONE + " 0");
            Checks.due(label + ": packed " + picture, moveToText(picture, 1).substring(0, 6), Checks.DONE + " 0");
        }
        Checks.due(label + ": an edited one is not", moveToText("9.9", 0), Checks.DONE + " 0.0");
        Checks.due(label + ": nor one with V", moveToText("9V9B", 0), Checks.DONE + " 00 ");
    }

    private static String moveToText(String picture, int usage) {
        PictureFields x = Checks.with(picture, usage);
        Checks.declare(x, "X(3)", 0);
        Checks.setAll(x, 1, "abc");
        return Checks.outcome(() -> x.move(0, 1)) + " " + Checks.bytes(x, 1);
    }

    private static void lastTwelveCharacters() {
        String label = "the digits of a number without point (the last 12 of them)";
        Checks.value(label, "X", 0, "7", 7);
        Checks.value(label, "X(11)", 0, "99999999999", 99999999999L);
        Checks.value(label, "X(12)", 0, "999999999999", 999999999999L);
        Checks.value(label, "X(13)", 0, "9999999999999", 999999999999L);
        Checks.value(label, "X(13)", 0, "1000000000000", 0);
        Checks.value(label, "X(13)", 0, "0100000000000", 100000000000L);
        Checks.value(label, "X(24)", 0, "999999999999000000000001", 1);
        Checks.value(label, "X(24)", 0, "00000000000 123456789012", 123456789012L);
        Checks.value(label, "X(24)", 0, "123456789012            ", 0);
        Checks.value(label, "X(3)", 0, "1 2", 102);
        Checks.value(label, "X(4)", 0, "1.2-", 1020);
        Checks.value(label, "X(4)", 0, "0/9:", 90);
        Checks.move(label, "X(13)", "9123456789012", "9(12)", "123456789012");
        Checks.move(label, "X(13)", "9123456789012", "Z(12)", "123456789012");
        Checks.move(label, "X(3)", "123", "9(3)V9", "1230");
        Checks.move(label, "X(3)", "123", "V9", "0");
        Checks.move(label, "X(3)", "-12", "S9(3)", "012");
    }
}
