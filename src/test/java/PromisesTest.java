import java.util.Arrays;

/** Each promise of the document with ordinary inputs, its edges and wrong inputs. */
public final class PromisesTest {
    private static int wrong = 0;

    public static void main(String[] args) {
        newObject();
        picture();
        counts();
        numberPictures();
        textPictures();
        value();
        text();
        editByNines();
        editByStrings();
        editByFloats();
        editZero();
        editAgain();
        editRefused();
        editText();
        at();
        back();
        number();
        currency();
        zero();
        size();
        suppressed();
        cut();
        told();
        System.out.println(wrong == 0 ? "all promises hold" : wrong + " answers are not as due");
        if (wrong != 0) {
            System.exit(1);
        }
    }

    private static void due(String what, Object got, Object want) {
        if (!got.equals(want)) {
            wrong++;
            System.out.println(what + " answered [" + got + "], due is [" + want + "]");
        }
    }

    private static EditMoves with(String picture) {
        EditMoves x = new EditMoves();
        tell(x, picture);
        return x;
    }

    private static void tell(EditMoves x, String picture) {
        x.picture(0);
        for (char c : picture.toCharArray()) {
            x.picture(c);
        }
    }

    private static void say(EditMoves x, String text) {
        x.text(0);
        for (char c : text.toCharArray()) {
            x.text(c);
        }
    }

    private static String result(EditMoves x) {
        StringBuilder all = new StringBuilder();
        for (int i = 0; x.at(i) != EditMoves.NONE; i++) {
            all.append((char) x.at(i));
        }
        return all.toString();
    }

    private static void shown(String picture, long v, int scale, String want) {
        EditMoves x = with(picture);
        x.value(v, scale);
        String name = "edit of " + v + " scale " + scale + " by " + picture;
        due(name + ", places", x.edit(), want.length());
        due(name, result(x), want);
    }

    private static void kind(String picture, int want) {
        due("told(0) of " + picture, with(picture).told(0), want);
    }

    private static void toldAll(String picture, Integer... want) {
        EditMoves x = with(picture);
        Integer[] got = new Integer[want.length];
        for (int i = 0; i < got.length; i++) {
            got[i] = x.told(i);
        }
        due("told of " + picture, Arrays.toString(got), Arrays.toString(want));
    }

    private static void newObject() {
        EditMoves x = new EditMoves();
        due("new told(0)", x.told(0), 0);
        due("new at(0)", x.at(0), EditMoves.NONE);
        due("new back()", x.back(), 0);
        due("new number()", x.number(), 0L);
        due("new cut()", x.cut(), 0);
        due("new suppressed()", x.suppressed(), 0);
        due("new edit()", x.edit(), -2);
        tell(x, "99.9");
        due("new number edited", x.edit(), 4);
        due("new number", result(x), "00.0");
        tell(x, "X");
        due("new text edited", x.edit(), 1);
        due("new text", result(x), " ");
        due("new text cut", x.cut(), 0);
        due("new size", new EditMoves().size(false), false);
        due("new zero", new EditMoves().zero(false), false);
        due("new currency", new EditMoves().currency('#', false), (int) '$');
        due("NONE", EditMoves.NONE, -1);
    }

    private static void picture() {
        for (int c : new int[] {-1, 1, 31, 127, 128, 256 + '9', 65536 + '9', -65536 + '9', Integer.MIN_VALUE, Integer.MAX_VALUE}) {
            otherThanSigns(c);
        }
        EditMoves x = new EditMoves();
        tell(x, "9" + "B".repeat(58) + "9Q");
        due("picture of 60, the 61st lost", x.told(0), 1);
        due("places of 60", x.told(3), 60);
        tell(x, "9" + "B".repeat(59));
        x.picture(0);
        due("picture emptied", x.told(0), 0);
        x.picture('9');
        due("picture begun anew", x.told(3), 1);
        tell(x, "9" + "B".repeat(57) + "(02)");
        due("count that is lost in part", x.told(0), 0);
        kind("zz9vb9cr", 1);
        kind("9dB", 1);
        kind("9Db", 1);
        kind("xb0/", 2);
        kind("9 ", 0);
        kind("A", 0);
        kind("9C", 0);
        kind("9R", 0);
        kind("9CB", 0);
        kind("9DR", 0);
        kind("~9", 0);
    }

    /** What is no sign comes behind the text all the same, and stays until the text is empty. */
    private static void otherThanSigns(int c) {
        EditMoves x = with("9");
        x.edit();
        x.picture(c);
        due("edit with " + c + " behind", x.edit(), -2);
        due("no result with " + c, x.at(0), -1);
        x.picture('9');
        for (int what = 0; what < 5; what++) {
            due("told with " + c + " between", x.told(what), 0);
        }
        x.picture(0);
        due("emptied of " + c, x.told(0), 0);
        x.picture('9');
        due("begun anew behind " + c, x.edit(), 1);
        x.picture(0);
        x.picture(c);
        x.picture('X');
        due("edit with " + c + " ahead", x.edit(), -2);
        tell(x, "9(");
        x.picture(c);
        x.picture(')');
        due("count of " + c, x.told(0), 0);
        tell(x, "9" + "B".repeat(59));
        x.picture(c);
        due(c + " as the 61st is lost", x.edit(), 60);
        tell(x, "9" + "B".repeat(58));
        x.picture(c);
        x.picture('9');
        due(c + " as the 60th is not lost", x.edit(), -2);
    }

    private static void counts() {
        toldAll("9(1)", 1, 1, 0, 1, 0);
        toldAll("9(01)", 1, 1, 0, 1, 0);
        toldAll("9(9)9(9)", 1, 18, 0, 18, 0);
        toldAll("Z(17)9(01)", 1, 18, 0, 18, 0);
        toldAll("+(3)V(1)9(2)", 1, 2, 2, 5, 0);
        toldAll("9CR(1)", 1, 1, 0, 3, 0);
        toldAll("X(99)B(99)", 2, 0, 0, 198, 0);
        for (String bad : new String[] {"9(0)", "9(00)", "9(", "9()", "9(1", "9(12", "9(123)", "9(001)", "9)", "(2)", "9(2)(2)",
                "9(-1)", "9(A)", "9(1A)", "9( 1)", "9CR(2)", "9C(1)R", "9.(2)9", "9V(2)", "9+(2)", "-(1)(1)9", "((2)9"}) {
            kind(bad, 0);
        }
    }

    private static void numberPictures() {
        for (String good : new String[] {"9", "Z", "*", "++", "--", "$$", "+9", "-9", "$9", "+$9", "-$Z", "+$$$9", "$++9", "$--",
                "ZZ9", "Z.Z", "Z.Z9", "Z.9", "ZVZ", "**.**", "$$.$$", "++.+", "--V-9", ".9", "V9", "9.", "9V", "Z.", "$$.", "9+", "9-",
                "9CR", "9DB", "$$+", "$$.$-", "Z.+", "Z+", "+Z.9", "B9", ",9", "0/9", "9B", "9+B", "9-/0,", "9BCR", "-,-", "+B+9", "$,9",
                "+,$,Z,9,.,9,", "$.9", "+.9", "$Z.Z-", "+--9", "-$++9", "99/99/99"}) {
            kind(good, 1);
        }
        for (String bad : new String[] {"", "+", "-", "$", ".", "V", "B", "CR", "$+", "+$", "B0/,", "9Z", "Z*", "Z$", "9$", "$+9", "+-9",
                "++$9", "+$++9", "-$--9", "9.Z", "Z9.Z", "$$9.$", "++9.+", ".Z", ".*", ".++", "V$$", "+.+", "$.$", "$.$$", "+.++", "9.9Z",
                "Z.*", "9.9.9", "9.V9", "9V.9", "9VV9", "+9+", "+9-", "-9CR", "-9DB", "++9+", "--9DB", "++-", "9+-", "9++", "9CRCR",
                "9CRDB", "9CRB", "9DB,", "9CR0", "CR9", "9CR9", "9+9", "9X", "X9", "$9$", "$$9$", "Z.9Z", "+ZCR", "$$Z", "$*$", "9(9)9(9)9",
                "Z(19)", "+(20)", "*(9).*(9)*"}) {
            kind(bad, 0);
        }
        kind("9(18)", 1);
        kind("+(19)", 1);
        kind("Z(9).Z(9)", 1);
        kind("B(99)9", 1);
    }

    private static void textPictures() {
        for (String good : new String[] {"X", "BX", "0X", "/X", "XB0/X", "X(60)"}) {
            kind(good, 2);
        }
        for (String bad : new String[] {"X,", "X.", "X9", "XZ", "X*", "X+", "X-", "X$", "XV", "XCR", "XDB", "X(0)", "B/0"}) {
            kind(bad, 0);
        }
    }

    private static void value() {
        EditMoves x = with("9(9).9(9)");
        due("value(123, 2)", x.value(123, 2), 1);
        x.edit();
        due("by the point", result(x), "000000001.230000000");
        for (int scale : new int[] {-1, 19, Integer.MIN_VALUE, Integer.MAX_VALUE}) {
            due("value(7, " + scale + ")", x.value(7, scale), 0);
        }
        x.edit();
        due("value unchanged", result(x), "000000001.230000000");
        due("value(5, 18)", x.value(5_000_000_000L, 18), 1);
        x.edit();
        due("scale 18", result(x), "000000000.000000005");
        due("value(5, 0)", x.value(5, 0), 1);
        x.edit();
        due("scale 0", result(x), "000000005.000000000");
        shown("V9(18)", Long.MAX_VALUE, 18, "223372036854775807");
        shown("-9(18)", Long.MIN_VALUE, 0, "-223372036854775808");
        shown("-9(18)", Long.MIN_VALUE, 1, "-922337203685477580");
    }

    private static void text() {
        EditMoves x = with("X(62)");
        String long60 = "0123456789".repeat(6);
        say(x, long60 + "ab");
        due("places of long text", x.edit(), 62);
        due("the 61st lost", result(x), long60 + "  ");
        for (int c : new int[] {31, 127, 0, -1, 256 + 'A', Integer.MIN_VALUE, Integer.MAX_VALUE}) {
            tell(x, "XX");
            say(x, "ab");
            x.text(c);
            x.text('c');
            x.edit();
            due("text emptied by " + c, result(x), "c ");
        }
        say(x, " ~");
        x.edit();
        due("text of 32 and 126", result(x), " ~");
    }

    private static void editByNines() {
        shown("999", 7, 0, "007");
        shown("999", -7, 0, "007");
        shown("+999", -7, 0, "-007");
        shown("+999", 7, 0, "+007");
        shown("-999", -7, 0, "-007");
        shown("-999", 7, 0, " 007");
        shown("999+", 7, 0, "007+");
        shown("999+", -7, 0, "007-");
        shown("999-", 7, 0, "007 ");
        shown("99CR", -7, 0, "07CR");
        shown("99CR", 7, 0, "07  ");
        shown("99db", -7, 0, "07DB");
        shown("99DB", 7, 0, "07  ");
        shown("$99", 7, 0, "$07");
        shown("-$9", -7, 0, "-$7");
        shown("9.99", 314, 2, "3.14");
        shown("9V99", 314, 2, "314");
        shown("99/99/99", 123456, 0, "12/34/56");
        shown("9B9,909", 1234, 0, "1 2,304");
        shown(",9/", 5, 0, ",5/");
        shown("B09", 5, 0, " 05");
        shown("9+B/", -5, 0, "5- /");
        shown("99-", -100, 0, "00 ");
        shown("99+", -100, 0, "00+");
        shown("99CR", -5, 1, "00  ");
        shown("9.9", 12345, 3, "2.3");
        shown("9.", 5, 0, "5.");
        shown("$.99", 5, 2, "$.05");
    }

    private static void editByStrings() {
        shown("ZZZ9", 50, 0, "  50");
        shown("ZZZ9", 0, 0, "   0");
        shown("ZZZ", 507, 0, "507");
        shown("***9", 50, 0, "**50");
        shown("Z,ZZ9", 50, 0, "   50");
        shown("Z,ZZ9", 1050, 0, "1,050");
        shown("*,**9", 50, 0, "***50");
        shown("ZZ/9", 5, 0, "   5");
        shown("ZZ/9", 15, 0, " 1/5");
        shown("**B0,9", 5, 0, "*****5");
        shown("/ZZ9", 5, 0, "/  5");
        shown("+,ZZ", 5, 0, "+, 5");
        shown("ZZ9,9", 5, 0, "  0,5");
        shown("ZZ.ZZ", 5, 2, "  .05");
        shown("ZZ,.ZZ", 5, 2, "   .05");
        shown("ZZ,V/ZZ", 5, 2, "   /05");
        shown("ZZ./Z9", 0, 2, "  ./00");
        shown("**V**", 5, 2, "**05");
        shown("ZZ.99", 0, 0, "  .00");
        shown("ZZ,", 5, 0, " 5,");
        shown("ZZ/+", 5, 0, " 5/+");
        shown("ZZCR", -5, 0, " 5CR");
        shown("$ZZ9", 5, 0, "$  5");
        shown("+$**9.99", -105, 2, "-$**1.05");
        shown("Z0Z", 5, 0, "  5");
        shown("Z0Z", 15, 0, "105");
    }

    private static void editByFloats() {
        shown("$$$9", 5, 0, "  $5");
        shown("$$$9", 125, 0, "$125");
        shown("$$$9", 5125, 0, "$125");
        shown("$,$$9", 5, 0, "   $5");
        shown("$,$$9", 125, 0, " $125");
        shown("$$,$$9.99", 5, 2, "    $0.05");
        shown("$$,$$9.99", 123456, 2, "$1,234.56");
        shown("$$,.99", 5, 2, "  $.05");
        shown("$$B/9", 5, 0, "   $5");
        shown("$$V99", 5, 2, " $05");
        shown("$$.$$", 5, 2, " $.05");
        shown("+++", 5, 0, " +5");
        shown("+++", -5, 0, " -5");
        shown("---", 5, 0, "  5");
        shown("---", -5, 0, " -5");
        shown("---", -15, 0, "-15");
        shown("++9", 0, 0, " +0");
        shown("--9", -100, 0, "  0");
        shown("-$$$9", -5, 0, "-  $5");
        shown("$++9", -5, 0, "$ -5");
        shown("+--9", -5, 0, "- -5");
        shown("$$9CR", -5, 0, " $5CR");
        shown("/++9", 5, 0, "/ +5");
        shown("++.+9", -1, 2, " -.01");
        shown("++.++", 10, 2, " +.10");
        shown("++.++", 100, 2, "+1.00");
        shown("++/", 5, 0, "+5/");
    }

    private static void editZero() {
        shown("ZZ,ZZ", 0, 0, "     ");
        shown("+$ZZ.ZZ", 0, 0, "       ");
        shown("/ZZ.ZZCR", -1, 3, "        ");
        shown("0Z", 0, 0, "  ");
        shown("$$", 0, 0, "  ");
        shown("++.++", 0, 0, "     ");
        shown("ZZVZ", 0, 0, "   ");
        shown("Z+", 0, 0, "  ");
        shown("**.**", 0, 0, "**.**");
        shown("+$/*,*.*B", 0, 0, "******.**");
        shown("**CR", 0, 0, "****");
        shown("**V*", 0, 0, "***");
        shown("**.99", 0, 0, "**.00");
        shown("ZZ", 100, 0, "  ");
    }

    /** Nothing of an earlier picture or edit may be left in a later one of the same object. */
    private static void editAgain() {
        String[][] rows = {{"$$9.99", " $5.00"}, {"ZZ9", "  5"}, {"**9", "**5"}, {"9-", "5 "}, {"---", "  5"}, {"+9", "+5"},
            {"99.9", "05.0"}, {"ZZ.Z", " 5.0"}, {"$9", "$5"}, {"99", "05"}, {"Z9", " 5"}, {"+9,9", "+0,5"}};
        for (String[] first : rows) {
            for (String[] second : rows) {
                EditMoves x = with(first[0]);
                x.value(5, 0);
                x.edit();
                tell(x, second[0]);
                x.edit();
                due(second[0] + " behind " + first[0], result(x), second[1]);
                tell(x, "99");
                due("told(2) behind " + second[0], x.told(2), 0);
                tell(x, "X");
                due("told(1) of a text behind " + second[0], x.told(1), 0);
                due("told(4) of a text behind " + second[0], x.told(4), 0);
                tell(x, "Z9Q");
                due("told(3) of none behind " + second[0], x.told(3), 0);
            }
        }
    }

    private static void editRefused() {
        EditMoves x = with("99");
        x.value(12, 0);
        x.edit();
        tell(x, "9Q");
        due("result stays while the picture changes", result(x), "12");
        due("edit by no picture", x.edit(), -2);
        due("no result", x.at(0), EditMoves.NONE);
        tell(x, "B(99)B(99)99");
        due("200 places", x.edit(), 200);
        due("place 199", x.at(199), (int) '2');
        due("place 200", x.at(200), EditMoves.NONE);
        tell(x, "B(99)B(98)V99CR");
        due("201 places with CR", x.edit(), -2);
        tell(x, "B(99)B(97)V99CR");
        due("200 places with CR and V", x.edit(), 200);
        tell(x, "B(99)B(99)B99");
        due("201 places", x.edit(), -2);
        due("no result of 201", x.at(0), EditMoves.NONE);
        tell(x, "X(99)X(99)XX");
        due("200 places of a text", x.edit(), 200);
        tell(x, "X(99)X(99)XXX");
        due("201 places of a text", x.edit(), -2);
    }

    private static void editText() {
        EditMoves x = with("XB/0X(2)");
        say(x, "a9 z");
        due("text places", x.edit(), 6);
        due("text edited", result(x), "a /09 ");
        due("text cut", x.cut(), 1);
        say(x, "q");
        x.zero(true);
        x.size(true);
        x.edit();
        due("short text", result(x), "q /0  ");
        due("short text cut", x.cut(), 0);
    }

    private static void at() {
        EditMoves x = with("99");
        x.value(12, 0);
        due("at before", x.at(0), EditMoves.NONE);
        x.edit();
        due("at(0)", x.at(0), (int) '1');
        due("at(1)", x.at(1), (int) '2');
        for (int i : new int[] {-1, 2, 200, Integer.MIN_VALUE, Integer.MAX_VALUE}) {
            due("at(" + i + ")", x.at(i), EditMoves.NONE);
        }
        tell(x, "999");
        x.edit();
        tell(x, "9");
        x.edit();
        due("at(1) of a shorter one", x.at(1), EditMoves.NONE);
    }

    private static void readBack(String picture, long v, int scale, long want) {
        EditMoves x = with(picture);
        x.value(v, scale);
        x.edit();
        due("back of " + picture + " with " + v, x.back(), 1);
        due("number of " + picture + " with " + v, x.number(), want);
    }

    private static void back() {
        readBack("$$,$$9.99CR", -123456, 2, -123456);
        readBack("99.99", -1234, 2, 1234);
        readBack("+999", -5, 0, -5);
        readBack("999+", 5, 0, 5);
        readBack("---9", -15, 0, -15);
        readBack("9DB", -5, 0, -5);
        readBack("9CR", 5, 0, 5);
        readBack("909", 12, 0, 12);
        readBack("B9B9/9,", 123, 0, 123);
        readBack("$9.9-", -12, 1, -12);
        readBack("0Z0Z9", 2, 0, 2);
        readBack("**.**", 0, 0, 0);
        readBack("**.**", 5, 2, 5);
        readBack("ZZ.ZZ", 0, 0, 0);
        readBack("99.99", 5, 0, 500);
        readBack("99", 1234, 1, 23);
        readBack("-9(18)", -999999999999999999L, 0, -999999999999999999L);
        readBack("+$$,$$9V99", -1234, 2, -1234);
        EditMoves x = with("ZZ9-");
        x.value(-42, 0);
        x.edit();
        tell(x, "X");
        x.currency('#', true);
        due("back by the picture that it had", x.back(), 1);
        due("number by the picture that it had", x.number(), -42L);
        x.edit();
        due("back of a text", x.back(), 0);
        tell(x, "Q");
        x.edit();
        due("back of none", x.back(), 0);
        tell(x, "9");
        x.size(true);
        x.edit();
        due("back of one too large", x.back(), 0);
        due("number stays", x.number(), -42L);
        x.value(7, 0);
        x.edit();
        x.value(77, 0);
        x.edit();
        due("back of one too large, behind a number", x.back(), 0);
        x.value(7, 0);
        x.edit();
        tell(x, "Q");
        x.edit();
        due("back of none, behind a number", x.back(), 0);
    }

    private static void number() {
        EditMoves x = with("9.9");
        x.value(25, 1);
        x.edit();
        due("number before back", x.number(), 0L);
        x.back();
        due("number", x.number(), 25L);
        x.value(31, 1);
        x.edit();
        due("number before the next back", x.number(), 25L);
        x.back();
        due("number after the next back", x.number(), 31L);
    }

    private static void currency() {
        EditMoves x = with("$$9");
        for (int c = -1; c <= 130; c++) {
            boolean letterOrDigit = c >= '0' && c <= '9' || c >= 'A' && c <= 'Z' || c >= 'a' && c <= 'z';
            boolean good = c > 32 && c < 127 && !letterOrDigit && "*+-,./()".indexOf(c) < 0;
            EditMoves y = new EditMoves();
            due("currency(" + c + ")", y.currency(c, c % 2 == 0), good ? (int) '$' : EditMoves.NONE);
            due("currency after " + c, y.currency('$', false), good ? c : (int) '$');
        }
        due("currency of the lowest", x.currency(Integer.MIN_VALUE, true), EditMoves.NONE);
        due("currency(256 + $)", x.currency(256 + '$', true), EditMoves.NONE);
        x.currency('#', false);
        due("$ no more", x.told(0), 0);
        tell(x, "##9");
        x.value(5, 0);
        x.edit();
        due("other currency", result(x), " #5");
        tell(x, "`9");
        x.currency('`', true);
        x.edit();
        due("currency as it is", result(x), "`5");
    }

    private static void zero() {
        EditMoves x = with("+$99.99CR");
        due("zero(true)", x.zero(true), false);
        due("zero(true) again", x.zero(true), true);
        tell(x, "+$99.99/");
        x.edit();
        due("blank when zero", result(x), "        ");
        due("blank when zero, suppressed", x.suppressed(), 8);
        tell(x, "9CR");
        x.value(-10, 0);
        x.edit();
        due("blank when zero by what came", result(x), "   ");
        x.value(-1, 0);
        x.edit();
        due("not zero", result(x), "1CR");
        x.value(0, 0);
        tell(x, "**9");
        x.edit();
        due("not with stars", result(x), "**0");
        tell(x, "**.*");
        x.edit();
        due("not with stars alone", result(x), "**.*");
        tell(x, "99");
        due("zero(false)", x.zero(false), true);
        x.edit();
        due("off again", result(x), "00");
    }

    private static void size() {
        EditMoves x = with("99.9");
        due("size(true)", x.size(true), false);
        x.value(12345, 2);
        due("too large", x.edit(), -1);
        due("too large, no result", x.at(0), EditMoves.NONE);
        due("too large, cut", x.cut(), 2);
        due("too large, suppressed", x.suppressed(), 0);
        x.value(1234, 3);
        due("cut behind alone", x.edit(), 4);
        x.value(1200, 4);
        due("nothing ahead", x.edit(), 4);
        x.value(-100, 0);
        due("too large below 0", x.edit(), -1);
        due("size(false)", x.size(false), true);
        due("not asked", x.edit(), 4);
        due("not asked, result", result(x), "00.0");
        x.size(true);
        tell(x, "9Q");
        due("no picture comes first", x.edit(), -2);
    }

    private static void hidden(String picture, long v, int scale, int want) {
        EditMoves x = with(picture);
        x.value(v, scale);
        x.edit();
        due("suppressed of " + picture + " with " + v, x.suppressed(), want);
    }

    private static void suppressed() {
        hidden("99", 0, 0, 0);
        hidden("ZZ9", 5, 0, 2);
        hidden("Z,ZZ9", 5, 0, 4);
        hidden("Z,ZZ9", 1005, 0, 0);
        hidden("**/9.99", 5, 2, 3);
        hidden("$$9", 5, 0, 2);
        hidden("$$9", 15, 0, 1);
        hidden("--9", 5, 0, 2);
        hidden("+ZZ.ZZ", 0, 0, 6);
        hidden("**.**", 0, 0, 4);
        hidden("**V**CR", 0, 0, 6);
        hidden("B-9B", 5, 0, 0);
        EditMoves x = with("ZZ9");
        x.edit();
        tell(x, "XX");
        x.edit();
        due("suppressed of a text", x.suppressed(), 0);
        tell(x, "ZZ");
        x.edit();
        tell(x, "");
        due("suppressed of the result", x.suppressed(), 2);
        x.edit();
        due("suppressed without one", x.suppressed(), 0);
    }

    private static void cut() {
        EditMoves x = with("9.9");
        x.value(120340506, 4);
        x.edit();
        due("cut at both ends", x.cut(), 5);
        x.value(10, 1);
        due("cut stays until the next edit", x.cut(), 5);
        x.edit();
        due("cut of none", x.cut(), 0);
        x.value(Long.MIN_VALUE, 18);
        x.edit();
        due("cut of the lowest", x.cut(), 15);
        tell(x, "Q");
        x.edit();
        due("cut of no picture", x.cut(), 0);
        tell(x, "X");
        say(x, "a  ");
        x.edit();
        due("cut of a text", x.cut(), 2);
        tell(x, "X(60)");
        x.edit();
        due("cut of a text that fits", x.cut(), 0);
    }

    private static void told() {
        toldAll("$$,$$9.99CR", 1, 4, 2, 11, 0);
        toldAll("+ZZ,ZZV9", 1, 4, 1, 7, 0);
        toldAll("ZZ.ZZ", 1, 2, 2, 5, 1);
        toldAll("99.99", 1, 2, 2, 5, 0);
        toldAll("++.++", 1, 1, 2, 5, 1);
        toldAll(".99", 1, 0, 2, 3, 0);
        toldAll("Z.9", 1, 1, 1, 3, 0);
        toldAll("$$DB", 1, 1, 0, 4, 1);
        toldAll("XB(3)X", 2, 0, 0, 5, 0);
        toldAll("9X", 0, 0, 0, 0, 0);
        toldAll("", 0, 0, 0, 0, 0);
        toldAll("B(99)B(99)B(99)9", 1, 1, 0, 298, 0);
        toldAll("X(99)X(99)X(99)", 2, 0, 0, 297, 0);
        for (int what : new int[] {-1, 5, Integer.MIN_VALUE, Integer.MAX_VALUE}) {
            due("told(" + what + ")", with("9").told(what), EditMoves.NONE);
            due("told(" + what + ") of none", with("Q").told(what), EditMoves.NONE);
        }
        EditMoves y = with("Z.Z");
        due("told(4) ahead of a text", y.told(4), 1);
        tell(y, "X");
        due("told(2) of a text behind a number", y.told(2), 0);
        due("told(4) of a text behind a number", y.told(4), 0);
        EditMoves x = with("ZZ");
        x.edit();
        due("told leaves the result", x.told(0) + result(x), "1  ");
    }
}
