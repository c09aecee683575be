/**
 * The document's sentences that name a boundary (too small, too large, empty, full, a wrap-around,
 * a refused call), each with a test of its own: the last case within, and the first one beyond.
 */
public final class BoundariesTest {
    private static final int LOWEST = Integer.MIN_VALUE;
    private static final int HIGHEST = Integer.MAX_VALUE;
    private static final String SIXTY = "abcdefghij".repeat(6);

    private static int wrong = 0;
    private static String sentence = "";

    public static void main(String[] args) {
        terms();
        stringsAndZero();
        promisesOfInput();
        promisesOfEditing();
        promisesOfSettings();
        promisesOfTelling();
        System.out.println(wrong == 0 ? "all boundaries hold" : wrong + " answers are not as due");
        if (wrong != 0) {
            System.exit(1);
        }
    }

    private static void terms() {
        atMost512Calls();
        smallLetters();
        whichAreSigns();
        twoLettersOneSign();
        countFromOneOn();
        textPictureHasX();
        orderOfParts();
        stringOfTwoOrMore();
        floatsStandsNowhereElse();
        onePoint();
        sameStringGoesOn();
        signAtTheEnd();
        insertionsAnywhere();
        oneToEighteenDigits();
        allSuppressedWithoutNine();
        valueOf64Bits();
        onesWithoutPlace();
        zeroByWhatCame();
        placesOfSigns();
    }

    private static void stringsAndZero() {
        suppressedUpToFirstShown();
        insertionsSuppressed();
        floatInLastSuppressed();
        behindThePointShown();
        zeroAllSuppressed();
        blankWhenZero();
        textTakenByX();
    }

    private static void promisesOfInput() {
        newObject();
        pictureFull();
        pictureOthers();
        pictureEmptied();
        valueScale();
        textFull();
        textEmptied();
    }

    private static void promisesOfEditing() {
        editByWhatItIs();
        editSizeAsked();
        editNoPicture();
        editTwoHundred();
        atBounds();
        backReads();
        backBehindLonger();
        backRefused();
        numberLatest();
    }

    private static void promisesOfSettings() {
        currencyBounds();
        currencyRefused();
        currencyAfter();
        zeroFromNowOn();
        sizeFromNowOn();
    }

    private static void promisesOfTelling() {
        suppressedCounts();
        suppressedWithout();
        cutAtBothEnds();
        cutOfText();
        cutElse();
        toldOthers();
        toldNone();
        toldAsItIs();
    }

    // What the tests are made of.

    private static void read(String ofTheDocument) {
        sentence = ofTheDocument;
    }

    private static void due(String call, Object got, Object want) {
        if (!got.equals(want)) {
            wrong++;
            System.out.println("\"" + sentence + "\": " + call + " answered [" + got + "], due is [" + want + "]");
        }
    }

    private static EditMoves with(String picture) {
        EditMoves x = new EditMoves();
        add(x, picture);
        return x;
    }

    private static void add(EditMoves x, String picture) {
        for (char c : picture.toCharArray()) {
            x.picture(c);
        }
    }

    private static void tell(EditMoves x, String picture) {
        x.picture(0);
        add(x, picture);
    }

    private static void say(EditMoves x, String text) {
        x.text(0);
        for (char c : text.toCharArray()) {
            x.text(c);
        }
    }

    private static String result(EditMoves x) {
        StringBuilder all = new StringBuilder();
        for (int c = x.at(0); c != EditMoves.NONE; c = x.at(all.length())) {
            all.append((char) c);
        }
        return all.toString();
    }

    private static String edited(EditMoves x) {
        int places = x.edit();
        String all = result(x);
        due("edit()'s places against at()'s", places, places < 0 ? places : all.length());
        return places < 0 ? String.valueOf(places) : all;
    }

    private static void shown(String picture, long v, int scale, String want) {
        EditMoves x = with(picture);
        x.value(v, scale);
        due(v + " scale " + scale + " edited by " + picture, edited(x), want);
    }

    private static void hidden(String picture, long v, int scale, int want) {
        EditMoves x = with(picture);
        x.value(v, scale);
        x.edit();
        due("suppressed() of " + v + " scale " + scale + " by " + picture, x.suppressed(), want);
    }

    private static void lost(String picture, long v, int scale, int want) {
        EditMoves x = with(picture);
        x.value(v, scale);
        x.edit();
        due("cut() of " + v + " scale " + scale + " by " + picture, x.cut(), want);
    }

    private static void readBack(String picture, long v, int scale, long want) {
        EditMoves x = with(picture);
        x.value(v, scale);
        x.edit();
        due("back() of " + v + " scale " + scale + " by " + picture, x.back(), 1);
        due("number() of " + v + " scale " + scale + " by " + picture, x.number(), want);
    }

    private static void kinds(int want, String... pictures) {
        for (String picture : pictures) {
            EditMoves x = with(picture);
            due("told(0) of " + picture, x.told(0), want);
            due("whether edit() by " + picture + " is -2", x.edit() == -2, want == 0);
        }
    }

    private static void ofNumber(String... pictures) {
        kinds(1, pictures);
    }

    private static void ofText(String... pictures) {
        kinds(2, pictures);
    }

    private static void none(String... pictures) {
        kinds(0, pictures);
    }

    private static void told(String picture, int ahead, int behind, int places, int all) {
        EditMoves x = with(picture);
        String got = x.told(1) + " " + x.told(2) + " " + x.told(3) + " " + x.told(4);
        due("told(1) to told(4) of " + picture, got, ahead + " " + behind + " " + places + " " + all);
    }

    // Terms: what a picture is.

    private static void atMost512Calls() {
        read("An object is used for at most 512 calls after it has been made");
        EditMoves x = with("Z9");
        for (int call = 3; call <= 510; call++) {
            x.value(call, 0);
        }
        due("the 511th call", x.edit(), 2);
        due("the 512th call", x.at(0), (int) '1');
    }

    private static void smallLetters() {
        read("small letters count as great ones");
        shown("zz9v9b9cr", -512, 2, "  51 2CR");
        shown("9dB", -5, 0, "5DB");
        shown("9Db", -5, 0, "5DB");
        shown("9cR", -5, 0, "5CR");
        ofText("x", "xb", "Xx");
        none("{", "[", "@", "`", "9v{", "9[", "y", "a9", "9w");
    }

    private static void whichAreSigns() {
        read("a text of SIGNS: 9 Z * + - B 0 / , . V X, CR and DB, and the CURRENCY sign");
        for (int c = 1; c <= 126; c++) {
            EditMoves behind = new EditMoves();
            behind.picture('9');
            behind.picture(c);
            due("told(0) of 9 and " + c, behind.told(0), "9+-B0/,.Vbv".indexOf(c) >= 0 ? 1 : 0);
            EditMoves ahead = new EditMoves();
            ahead.picture(c);
            ahead.picture('9');
            due("told(0) of " + c + " and 9", ahead.told(0), "9Zz*+-$B0/,.Vbv".indexOf(c) >= 0 ? 1 : 0);
            EditMoves text = new EditMoves();
            text.picture('X');
            text.picture(c);
            due("told(0) of X and " + c, text.told(0), "XB0/xb".indexOf(c) >= 0 ? 2 : 0);
        }
    }

    private static void twoLettersOneSign() {
        read("CR and DB (two letters, one sign)");
        ofNumber("9CR", "9DB", "9CR(1)", "9DB(01)");
        none("9C", "9D", "9R", "9CB", "9DR", "9RC", "9BD", "9C(1)R", "9CBR", "CR", "DB");
        told("9CR", 1, 0, 3, 0);
        EditMoves x = with("9CR");
        tell(x, "9C");
        due("told(0) of 9C behind 9CR", x.told(0), 0);
    }

    private static void countFromOneOn() {
        read("behind each perhaps ( a count ), one or two digits, from 1 on: so many of it");
        told("9(1)", 1, 0, 1, 0);
        told("9(01)", 1, 0, 1, 0);
        told("9(9)", 9, 0, 9, 0);
        told("9(10)", 10, 0, 10, 0);
        told("B(99)9", 1, 0, 100, 0);
        told("+(1)$(1)Z(2)B(3).(1)Z(2)9(2)", 2, 4, 12, 0);
        told("9(2)V(1)9(3)CR(1)", 2, 3, 7, 0);
        none("9(0)", "9(00)", "X(0)", "B(0)9", "9()", "9(100)", "9(001)", "9(", "9(1", "9(01", "9)", "9(1))", "9((1))", "9(1)(1)",
            "(1)9", "()", "9(-1)", "9(+1)", "9( 1)", "9(1 )", "9(Z)", "9(1Z)", "9(/)", "9(:)", "9(1/)", "9(1:)");
        EditMoves x = with("9(2)");
        tell(x, "9");
        due("places of 9 behind 9(2)", x.told(3), 1);
        tell(x, "9(12)");
        tell(x, "9(1");
        due("told(0) of 9(1 behind 9(12)", x.told(0), 0);
    }

    private static void textPictureHasX() {
        read("A TEXT PICTURE has X, and else B 0 / alone");
        ofText("X", "BX", "X0", "/X/", "B0/X", "X(99)");
        none("", "B", "0", "/", "B0/", "X,", "X.", ",X", "X9", "9X", "XZ", "X*", "X+", "X-", "X$", "$X", "XV", "XCR", "XDB", "ZX");
    }

    private static void orderOfParts() {
        read("A NUMBER PICTURE has in this order: perhaps + or -; perhaps the currency sign; then perhaps a STRING; then perhaps 9");
        ofNumber("9", "+9", "-9", "$9", "+$9", "-$9", "Z", "+Z", "$Z", "-$Z9", "+$*9", "Z9", "*9", "$$9", "++9", "--9", "+$$9", "$++9");
        none("$+9", "$-9", "+-9", "-+9", "9Z", "9*", "9$", "9$$", "9++9", "9--", "Z+9", "Z-9", "*$", "Z$9", "*+9", "$+$", "Z9Z", "9+9");
    }

    private static void stringOfTwoOrMore() {
        read("Z, or *, or two or more of + or - or the currency sign");
        ofNumber("Z", "*", "++", "--", "$$", "+(2)", "-(2)", "$(2)", "+,+", "$B$", "+$$", "$++", "-Z");
        none("+", "-", "$", "+(1)", "-(1)", "$(1)", "+$", "-$", "$+", "Z*", "*Z", "ZZ*9", "$$Z", "Z$$", "++Z", "--*", "$$**", "++--", "--++");
        told("+9", 1, 0, 2, 0);
        told("++9", 2, 0, 3, 0);
        told("$(1)9", 1, 0, 2, 0);
        told("$(2)9", 2, 0, 3, 0);
        told("-(1)9", 1, 0, 2, 0);
        told("-(2)9", 2, 0, 3, 0);
    }

    private static void floatsStandsNowhereElse() {
        read("which then FLOATS, and stands nowhere else");
        none("+$++9", "-$--9", "++$9", "--$9", "$$+$9", "++9+", "--9-", "$$9$", "$$9.9$", "++9.+", "--9.9-", "$$9.$9");
        ofNumber("++9", "$++9", "-$$9", "$$9-", "$$9+", "$$9CR");
        told("$,$/$", 2, 0, 5, 1);
    }

    private static void onePoint() {
        read("then perhaps a POINT: . or V");
        ofNumber("9", "9.", "9V", "9.9", "9V9", ".9", "V9", "$.9", "-V9", "Z.", "ZV9", "$$.");
        none(".", "V", "..9", "9..9", "9.9.9", "9VV9", "9V9V9", "9.V9", "9V.9", "9.(2)9", "9V(2)9", "+.", "$V", ".CR");
        told("9.", 1, 0, 2, 0);
        told("9V", 1, 0, 1, 0);
        told(".9", 0, 1, 2, 0);
        told("V9", 0, 1, 1, 0);
    }

    private static void sameStringGoesOn() {
        read("behind it, if there is no 9 ahead, perhaps the same string goes on (any number of it), then perhaps 9");
        ofNumber("Z.", "Z.Z", "Z.ZZZ", "*V*", "*.**9", "++.", "++.+", "++.+++", "--V-", "$$.$", "$$.$$9", "ZZ.Z(16)", "ZV9");
        none("9.Z", "Z9.Z", "*9V*", "++9.+", "$$9.$$", "Z.*", "*.Z", "Z.$$", "$$.Z", "++.-", "--.+", "++.--", "Z.9Z", "++.9+", ".Z", ".*", "V$$",
            "$.$", "$.$$", "+.++");
        told("$$.$", 1, 1, 4, 1);
        told("++.+9", 1, 2, 5, 0);
    }

    private static void signAtTheEnd() {
        read("at the end perhaps + - CR or DB, if no + or - stands ahead, fixed or floating");
        ofNumber("9+", "9-", "9CR", "9DB", "Z+", "*-", "$$CR", "$9DB", "Z.Z+", "9.9-", "$$.$$+");
        none("+9+", "+9-", "-9+", "-9-", "+9CR", "-9DB", "+$9CR", "++9+", "++9-", "--9+", "--CR", "++DB", "++.+CR", "-ZCR", "9++", "9+(2)", "9--",
            "9+-", "9+CR", "9CR+", "9CRCR", "9CR(2)", "9CRDB", "9DBCR", "9-9", "9CR9", "9DB.", "CR9", "9+.9", "9-$");
    }

    private static void insertionsAnywhere() {
        read("B 0 / , stand anywhere but behind CR and DB");
        for (String insertion : new String[] {"B", "0", "/", ","}) {
            ofNumber(insertion + "9", "9" + insertion, "9" + insertion + "9", "+" + insertion + "$" + insertion + "Z" + insertion + "Z",
                "Z" + insertion + ".Z", "9." + insertion + "9", "9" + insertion + "+", "9+" + insertion, "9-" + insertion + insertion,
                "9" + insertion + "CR", "9." + insertion + "DB", "-" + insertion + "-");
            none("9CR" + insertion, "9DB" + insertion, "9" + insertion + "CR" + insertion, insertion);
        }
    }

    private static void oneToEighteenDigits() {
        read("Its DIGITS are 9, Z, *, and floating signs but the first one: 1 .. 18 of them");
        none("+", "$", "+$", ".", "B(18)", "0", ",");
        ofNumber("9", "Z", "*", "$$", "++", "--");
        ofNumber("9(18)", "Z(18)", "*(18)", "$(19)", "+(19)", "-(19)", "9(9).9(9)", "Z(9)V9(9)", "V9(18)", "++.+(17)", "-(18)9", "Z(8)9(10)");
        none("9(19)", "Z(19)", "*(19)", "$(20)", "+(20)", "-(20)", "9(9).9(9)9", "9(10)V9(9)", "V9(19)", "++.+(18)", "-(19)9", "Z(9)9(10)", "9(99)");
        told("9(18)", 18, 0, 18, 0);
        told("$(19)", 18, 0, 19, 1);
        told("V9(18)", 0, 18, 18, 0);
        shown("9(18)", 999_999_999_999_999_999L, 0, "999999999999999999");
        shown("$(19)", 123_456_789_012_345_678L, 0, "$123456789012345678");
    }

    private static void allSuppressedWithoutNine() {
        read("It is ALL SUPPRESSED if it has no 9");
        told("Z", 1, 0, 1, 1);
        told("**.**", 2, 2, 5, 1);
        told("$$V$CR", 1, 1, 5, 1);
        told("Z9", 2, 0, 2, 0);
        told("Z.9", 1, 1, 3, 0);
        told("ZV9", 1, 1, 2, 0);
        told("9", 1, 0, 1, 0);
        told("X", 0, 0, 1, 0);
    }

    // Terms: editing a number.

    private static void valueOf64Bits() {
        read("A NUMBER is a value of 64 bits and a scale 0 .. 18: so many of its decimals stand behind the point");
        shown("+9(18)", Long.MAX_VALUE, 0, "+223372036854775807");
        shown("+9(18)", Long.MIN_VALUE, 0, "-223372036854775808");
        shown("+9.9(17)", Long.MAX_VALUE, 18, "+9.22337203685477580");
        shown("+9.9(17)", Long.MIN_VALUE, 18, "-9.22337203685477580");
        shown("-V9(18)", Long.MIN_VALUE, 18, "-223372036854775808");
        shown("-9(18)", Long.MIN_VALUE, 1, "-922337203685477580");
        shown("9.9", 1, 0, "1.0");
        shown("9.9", 1, 1, "0.1");
        shown("V9(18)", 1, 18, "000000000000000001");
    }

    private static void onesWithoutPlace() {
        read("its digits come to those of the picture, by the point; ones that have no place are CUT");
        shown("99", 123, 0, "23");
        shown("99", 1234, 1, "23");
        shown("9.9", 12345, 3, "2.3");
        shown("V99", 12345, 2, "45");
        shown("99", 5, 0, "05");
        shown("V99", 5, 1, "50");
        shown("V9(9)", 7, 0, "000000000");
        shown("9(9)", 999, 18, "000000000");
        shown("9V9", 99, 18, "00");
        shown("ZZ", 105, 0, " 5");
    }

    private static void zeroByWhatCame() {
        read("It is ZERO if all that came are 0; NEGATIVE if the value is below 0 and it is not zero");
        shown("+9", 0, 0, "+0");
        shown("+9", 1, 0, "+1");
        shown("+9", -1, 0, "-1");
        shown("+9", -10, 0, "+0");
        shown("+9", -9, 1, "+0");
        shown("-9", -10, 0, " 0");
        shown("9CR", -10, 0, "0  ");
        shown("--9", -100, 0, "  0");
        shown("ZZ", -100, 0, "  ");
        shown("+9", -11, 0, "-1");
        shown("+9.9", -1, 1, "-0.1");
        shown("+9.9", -9, 2, "+0.0");
    }

    private static void placesOfSigns() {
        read("Each sign of the picture gives one place (CR, DB two, V none)");
        told("B0/,.9CR", 0, 1, 8, 0);
        told("9V9", 1, 1, 2, 0);
        shown("B0/,9.9", 12, 1, " 0/,1.2");
        shown("9V9", 12, 1, "12");
        shown("$9", 1, 0, "$1");
        shown("+9", 1, 0, "+1");
        shown("-9", 1, 0, " 1");
        shown("-9", -1, 0, "-1");
        shown("9+", -1, 0, "1-");
        shown("9+", 1, 0, "1+");
        shown("9-", 1, 0, "1 ");
        shown("9-", -1, 0, "1-");
        shown("9CR", -1, 0, "1CR");
        shown("9CR", 1, 0, "1  ");
        shown("9DB", -1, 0, "1DB");
        shown("9DB", 0, 0, "0  ");
    }

    // Terms: the string and what is suppressed, zero, texts.

    private static void suppressedUpToFirstShown() {
        read("the first digit of it that is not 0, else the . or V behind, else the 9 behind, or the string's end");
        shown("ZZZ9", 1000, 0, "1000");
        shown("ZZZ9", 100, 0, " 100");
        shown("ZZZ9", 10, 0, "  10");
        shown("ZZZ9", 1, 0, "   1");
        shown("ZZZ9", 0, 0, "   0");
        shown("***9", 0, 0, "***0");
        shown("***", 1, 0, "**1");
        shown("ZZ.99", 0, 0, "  .00");
        shown("ZZV99", 0, 0, "  00");
        shown("ZZ9.99", 0, 0, "  0.00");
        shown("ZZ99", 0, 0, "  00");
        shown("**.99", 1, 2, "**.01");
        shown("ZZ", 0, 0, "  ");
    }

    private static void insertionsSuppressed() {
        read("insertions among them are suppressed, too, and behind the string up to a 9; those that are behind a shown digit aren't");
        shown("Z,Z/Z9", 0, 0, "     0");
        shown("Z,Z/Z9", 10, 0, "    10");
        shown("Z,Z/Z9", 100, 0, "  1/00");
        shown("Z,Z/Z9", 1000, 0, "1,0/00");
        shown("*,*/*9", 100, 0, "**1/00");
        shown("ZB0/,9", 0, 0, "     0");
        shown("ZB0/,9", 10, 0, "1 0/,0");
        shown("*B0/,9", 0, 0, "*****0");
        shown("Z,9,9", 0, 0, "  0,0");
        shown("Z,.,9", 0, 1, "  .,0");
        shown("Z,V,9", 0, 1, "  ,0");
        shown(",Z9", 0, 0, ", 0");
        shown("+,$/Z9", 0, 0, "+,$/ 0");
        shown("0*9", 0, 0, "0*0");
        shown("Z,+", 1, 0, "1,+");
    }

    private static void floatInLastSuppressed() {
        read("A floating sign stands in the last suppressed place (+ or -, by the number; - as a blank or -)");
        shown("$$$", 1, 0, " $1");
        shown("$$$", 12, 0, "$12");
        shown("$$$", 123, 0, "$23");
        shown("$$9", 0, 0, " $0");
        shown("$,$$", 1, 0, "  $1");
        shown("$,$$", 12, 0, " $12");
        shown("$$,9", 0, 0, "  $0");
        shown("$$/.9", 0, 0, "  $.0");
        shown("$$/V9", 0, 0, "  $0");
        shown("++9", 1, 0, " +1");
        shown("++9", -1, 0, " -1");
        shown("++9", 0, 0, " +0");
        shown("--9", 1, 0, "  1");
        shown("--9", -1, 0, " -1");
        shown("--9", -12, 0, "-12");
        shown("--,9", -1, 0, "  -1");
        shown("/$$9", 1, 0, "/ $1");
    }

    private static void behindThePointShown() {
        read("Digits of the string behind the point are shown");
        shown("ZZ.ZZ", 1, 2, "  .01");
        shown("**.**", 1, 2, "**.01");
        shown("$$.$$", 1, 2, " $.01");
        shown("++.+/+", -1, 2, " -.0/1");
        shown("--V--", -1, 2, " -01");
        shown("ZZV,ZZ", 10, 2, "  ,10");
        shown("ZZ.Z9", 0, 2, "  .00");
        shown("ZZ.ZZ", 100, 2, " 1.00");
    }

    private static void zeroAllSuppressed() {
        read("Zero in an all suppressed picture: all places are blanks; with *: all are stars but the .");
        shown("Z", 0, 0, " ");
        shown("+$Z,Z.Z/", 0, 0, "        ");
        shown("0Z/Z-", 0, 0, "     ");
        shown("$$.$$DB", 0, 0, "       ");
        shown("++V+", 0, 0, "   ");
        shown("--", -100, 0, "  ");
        shown("ZZCR", -100, 0, "    ");
        shown("*", 0, 0, "*");
        shown("-$*,*.*B", 0, 0, "*****.**");
        shown("*V*CR", 0, 0, "****");
        shown("0**.", 0, 0, "***.");
        shown("*.9", 0, 0, "*.0");
        shown("ZZ", 1, 1, "  ");
        shown("ZZ", 1, 0, " 1");
    }

    private static void blankWhenZero() {
        read("By BLANK WHEN ZERO (told, off at first; not with *): zero gives blanks in all places of any picture");
        EditMoves x = with("+$99.9/");
        due("off at first", edited(x), "+$00.0/");
        x.zero(true);
        due("zero by +$99.9/", edited(x), "       ");
        x.value(-100, 0);
        due("-100 by +$99.9/", edited(x), "       ");
        x.value(1, 1);
        due("0.1 by +$99.9/", edited(x), "+$00.1/");
        x.value(0, 0);
        for (String[] row : new String[][] {{"9", " "}, {"Z9CR", "    "}, {"$$9", "   "}, {"--.9", "    "}, {"ZZ", "  "}, {"09V9", "   "},
            {"*9", "*0"}, {"*.9", "*.0"}, {"**.*", "**.*"}, {"+*9", "+*0"}}) {
            tell(x, row[0]);
            due("zero by " + row[0], edited(x), row[1]);
        }
        tell(x, "X0");
        due("a text of none by X0", edited(x), " 0");
    }

    private static void textTakenByX() {
        read("X takes the next sign of the text (a blank when there is none), B a blank, 0 / themselves; what is left is cut");
        EditMoves x = with("XBX0/X");
        String[][] rows = {{"", "   0/ "}, {"a", "a  0/ "}, {"ab", "a b0/ "}, {"abc", "a b0/c"}, {"abcd", "a b0/c"}, {"~ 9z", "~  0/9"}};
        for (String[] row : rows) {
            say(x, row[0]);
            due("text " + row[0], edited(x), row[1]);
            due("cut of text " + row[0], x.cut(), Math.max(0, row[0].length() - 3));
        }
        say(x, "abc");
        x.edit();
        due("the same text again", edited(x), "a b0/c");
    }

    // Promises 1 to 4.

    private static void newObject() {
        read("No picture, no number (0, scale 0), no text");
        EditMoves x = new EditMoves();
        for (int what = 0; what <= 4; what++) {
            due("told(" + what + ")", x.told(what), 0);
        }
        due("edit()", x.edit(), -2);
        due("at(0)", x.at(0), -1);
        due("back()", x.back(), 0);
        due("number()", x.number(), 0L);
        due("suppressed()", x.suppressed(), 0);
        due("cut()", x.cut(), 0);
        due("the number", edited(with("+9(9).9(9)")), "+000000000.000000000");
        due("the text", edited(with("XX")), "  ");
        EditMoves other = with("9");
        other.value(5, 0);
        other.text('t');
        due("a new object beside another", edited(with("9")), "0");
    }

    private static void pictureFull() {
        read("A sign comes behind the picture's text; the 61st and more are lost");
        EditMoves x = with("9" + "B".repeat(58));
        due("places of 59", x.told(3), 59);
        x.picture('9');
        due("places of 60", x.told(3), 60);
        x.picture('9');
        due("places with a 61st", x.told(3), 60);
        x.picture('Q');
        x.picture('-');
        due("edit with lost ones", x.edit(), 60);
        due("the last place", x.at(59), (int) '0');
        tell(x, "9" + "B".repeat(57) + "CR");
        due("CR as 59th and 60th", x.told(3), 60);
        tell(x, "9" + "B".repeat(58) + "CR");
        due("CR as 60th and 61st", x.told(0), 0);
        tell(x, "9" + "B".repeat(56) + "(2)");
        due("count up to the 60th", x.told(3), 58);
        tell(x, "9" + "B".repeat(57) + "(2)");
        due("count up to the 61st", x.told(0), 0);
        tell(x, "X".repeat(61));
        due("61 of X", x.edit(), 60);
    }

    private static void pictureOthers() {
        read("others than 1 .. 126 are no signs");
        for (int c : new int[] {-1, 127, 128, 255, 256 + '9', 65536 + '9', '9' - 256, '9' - 65536, LOWEST, HIGHEST, LOWEST + '9'}) {
            EditMoves x = with("9");
            x.picture(c);
            due("edit() behind picture(" + c + ")", x.edit(), -2);
            due("told(0) behind picture(" + c + ")", x.told(0), 0);
            tell(x, "B".repeat(59) + "9");
            x.picture(c);
            due("edit() with " + c + " as the 61st", x.edit(), 60);
        }
        othersBesideEachCurrency();
        EditMoves least = with("9");
        least.picture(1);
        due("told(0) with 1", least.told(0), 0);
        EditMoves most = with("~9");
        most.currency(126, false);
        due("told(0) with 126 as the currency sign", most.told(0), 1);
    }

    /** However others are held inside, no currency sign may be taken for one of them. */
    private static void othersBesideEachCurrency() {
        for (int currency = 33; currency <= 126; currency++) {
            for (int c : new int[] {-1, 127, 128, LOWEST, HIGHEST, currency + 256, currency + 65536, currency - 65536}) {
                EditMoves x = new EditMoves();
                x.currency(currency, false);
                x.picture(c);
                x.picture('9');
                due("told(0) with " + c + " and the currency sign " + currency, x.told(0), 0);
            }
        }
    }

    private static void pictureEmptied() {
        read("0: it is empty then");
        EditMoves x = with("9".repeat(61));
        x.picture(0);
        due("told(0) of the emptied", x.told(0), 0);
        due("edit() by the emptied", x.edit(), -2);
        x.picture(0);
        due("told(3) emptied twice", x.told(3), 0);
        add(x, "9" + "B".repeat(60));
        due("full anew", x.told(3), 60);
    }

    private static void valueScale() {
        read("The number that is edited: 1; 0, changing nothing, when scale is not 0 .. 18");
        for (int scale = 0; scale <= 18; scale++) {
            due("value(1, " + scale + ")", new EditMoves().value(1, scale), 1);
        }
        EditMoves x = with("99.99");
        x.value(1234, 2);
        for (int scale : new int[] {-1, 19, -18, 20, 256, 1 << 16, LOWEST, HIGHEST}) {
            due("value(7, " + scale + ")", x.value(7, scale), 0);
            due("the number behind value(7, " + scale + ")", edited(x), "12.34");
        }
        due("value of the lowest", x.value(Long.MIN_VALUE, 18), 1);
        due("the lowest", edited(x), "09.22");
        due("value(0, 0)", x.value(0, 0), 1);
        due("0", edited(x), "00.00");
    }

    private static void textFull() {
        read("A character comes behind the text (32 .. 126); the 61st and more are lost");
        EditMoves x = with("X(61)");
        say(x, SIXTY.substring(1));
        due("59", edited(x), SIXTY.substring(1) + "  ");
        x.text('!');
        due("60", edited(x), SIXTY.substring(1) + "! ");
        x.text('?');
        x.text('?');
        due("62", edited(x), SIXTY.substring(1) + "! ");
        tell(x, "X");
        x.edit();
        due("cut of 62 by X", x.cut(), 59);
        say(x, " ");
        x.edit();
        due("32", x.at(0), 32);
        say(x, "~");
        x.edit();
        due("126", x.at(0), 126);
    }

    private static void textEmptied() {
        read("others: it is empty then");
        for (int c : new int[] {0, 1, 31, 127, 128, -1, 256 + 'A', 65536 + 'A', 'A' - 256, LOWEST, HIGHEST}) {
            EditMoves x = with("XX");
            say(x, "ab");
            x.text(c);
            due("text behind text(" + c + ")", edited(x), "  ");
            x.text('c');
            due("text begun anew behind text(" + c + ")", edited(x), "c ");
        }
        EditMoves x = with("X(60)");
        say(x, SIXTY + "!");
        x.text(31);
        say(x, SIXTY);
        due("full anew", edited(x), SIXTY);
    }

    // Promises 5 to 8.

    private static void editSizeAsked() {
        read("-1, no result, when size is asked and digits ahead of the point that are not 0 would be cut");
        EditMoves x = with("99.9");
        x.size(true);
        x.value(99, 0);
        due("99 fits", edited(x), "99.0");
        x.value(100, 0);
        due("100", x.edit(), -1);
        due("at(0) behind -1", x.at(0), -1);
        due("suppressed() behind -1", x.suppressed(), 0);
        due("back() behind -1", x.back(), 0);
        x.value(-100, 0);
        due("-100", x.edit(), -1);
        x.value(9999, 2);
        due("99.99, cut behind the point alone", edited(x), "99.9");
        x.value(1, 18);
        due("cut behind alone, far off", edited(x), "00.0");
        x.value(Long.MIN_VALUE, 18);
        due("the lowest, scale 18", edited(x), "09.2");
        x.value(Long.MIN_VALUE, 16);
        due("the lowest, scale 16", x.edit(), -1);
        x.value(1_000_000_000_000_000_000L, 0);
        due("19 digits, all but one 0", x.edit(), -1);
        tell(x, "V9");
        x.value(1, 0);
        due("1 by V9", x.edit(), -1);
        x.value(9, 1);
        due("0.9 by V9", edited(x), "9");
        tell(x, "$$");
        x.value(10, 0);
        due("10 by $$", x.edit(), -1);
        tell(x, "X");
        say(x, "abc");
        due("a text that is cut", edited(x), "a");
    }

    private static void editByWhatItIs() {
        read("Editing, by what the picture is: the number of places, the RESULT");
        EditMoves x = new EditMoves();
        x.value(5, 0);
        x.text('t');
        for (String[] row : new String[][] {{"$$9", " $5"}, {"99", "05"}, {"$9", "$5"}, {"X", "t"}, {"++9", " +5"}, {"+9", "+5"}, {"*9", "*5"},
            {"Z9", " 5"}, {"ZZ.Z", " 5.0"}, {"9/", "5/"}, {"X/X", "t/ "}, {"--", " 5"}, {"-9", " 5"}}) {
            tell(x, row[0]);
            due("edit() by " + row[0], x.edit(), row[1].length());
            due("the result by " + row[0], result(x), row[1]);
        }
    }

    private static void editNoPicture() {
        read("-2, no result, when the text is no picture");
        EditMoves x = with("Z9");
        x.value(123, 0);
        x.edit();
        x.picture('Q');
        due("result ahead of edit()", result(x), "23");
        due("edit()", x.edit(), -2);
        due("at(0)", x.at(0), -1);
        due("suppressed()", x.suppressed(), 0);
        due("back()", x.back(), 0);
        due("cut()", x.cut(), 0);
        x.size(true);
        due("edit() with size asked", x.edit(), -2);
        x.picture(0);
        due("edit() of an empty one", x.edit(), -2);
    }

    private static void editTwoHundred() {
        read("-2, no result, when the text has more than 200 places");
        kindOfLength("B(99)B(99)99", 200);
        kindOfLength("B(99)B(99)9V9", 200);
        kindOfLength("B(99)B(98)9CR", 200);
        kindOfLength("X(99)X(99)XX", 200);
        kindOfLength("9B(99)B(99)B", 200);
        kindOfLength("B(99)B(99)B99", -2);
        kindOfLength("B(99)B(99)99V9", -2);
        kindOfLength("B(99)B(98)99CR", -2);
        kindOfLength("X(99)X(99)XXX", -2);
        kindOfLength("9B(99)B(99)B(99)B(99)B(99)B(99)B(99)B(99)B(99)B(99)B(99)", -2);
        EditMoves x = with("Z9");
        x.edit();
        tell(x, "Z(2)B(99)B(99)9");
        due("201 places behind a result", x.edit(), -2);
        due("at(0) behind it", x.at(0), -1);
        due("suppressed() behind it", x.suppressed(), 0);
        due("back() behind it", x.back(), 0);
        x.value(12345, 0);
        x.size(true);
        due("201 places with size asked", x.edit(), -2);
        due("cut() of 201 places", x.cut(), 0);
        tell(x, "ZB(99)B(98)Z9");
        x.value(0, 0);
        due("200 suppressed but one", x.edit() + " " + x.suppressed(), "200 199");
        x.zero(true);
        due("200 blanks", x.edit() + " " + x.suppressed(), "200 200");
    }

    private static void kindOfLength(String picture, int want) {
        EditMoves x = with(picture);
        due("edit() by " + picture, x.edit(), want);
        due("at(199) by " + picture, x.at(199) != -1, want == 200);
        due("at(200) by " + picture, x.at(200), -1);
    }

    private static void atBounds() {
        read("The i-th place of the result; NONE when there is none");
        EditMoves x = with("999");
        x.value(123, 0);
        due("at(0) ahead of any result", x.at(0), -1);
        x.edit();
        due("at(0)", x.at(0), (int) '1');
        due("at(2)", x.at(2), (int) '3');
        for (int i : new int[] {-1, 3, 4, 200, 201, 1 << 16, LOWEST, HIGHEST}) {
            due("at(" + i + ")", x.at(i), -1);
        }
        tell(x, "9");
        due("at(2) until the next edit()", x.at(2), (int) '3');
        x.edit();
        due("at(1) of a shorter result", x.at(1), -1);
    }

    private static void backReads() {
        read("digits where they are shown, 0 elsewhere; negative if there is a - , CR or DB: 1");
        readBack("9", 0, 0, 0);
        readBack("9(18)", 999_999_999_999_999_999L, 0, 999_999_999_999_999_999L);
        readBack("-9(18)", -999_999_999_999_999_999L, 0, -999_999_999_999_999_999L);
        readBack("-9(18)", Long.MIN_VALUE, 0, -223_372_036_854_775_808L);
        readBack("9", -5, 0, 5);
        readBack("+9", -5, 0, -5);
        readBack("-9", -5, 0, -5);
        readBack("9+", -5, 0, -5);
        readBack("9-", -5, 0, -5);
        readBack("++9", -5, 0, -5);
        readBack("--9", -5, 0, -5);
        readBack("9CR", -5, 0, -5);
        readBack("9DB", -5, 0, -5);
        readBack("9DB", 5, 0, 5);
        readBack("+9", -10, 0, 0);
        readBack("Z0Z,9", 7, 0, 7);
        readBack("09", 7, 0, 7);
        readBack("9/0B9", 12, 0, 12);
        readBack("ZZ", 0, 0, 0);
        readBack("**.**", 0, 0, 0);
        readBack("**.**", 7, 2, 7);
        readBack("ZZZ", 100, 0, 100);
        EditMoves x = with("-99");
        x.value(0, 0);
        x.zero(true);
        x.edit();
        due("back() of blanks", x.back(), 1);
        due("number() of blanks", x.number(), 0L);
    }

    private static void backBehindLonger() {
        read("The result of a number is read back");
        for (String longer : new String[] {"9-", "9+", "9CR", "9DB", "999", "9-/"}) {
            EditMoves x = with(longer);
            x.value(-777, 0);
            x.edit();
            tell(x, "9");
            x.value(5, 0);
            x.edit();
            x.back();
            due("number() of 5 behind a result by " + longer, x.number(), 5L);
        }
    }

    private static void backRefused() {
        read("read back by the picture that it had; 0 when there is no such result");
        EditMoves x = with("ZZ9-");
        due("back() of none yet", x.back(), 0);
        x.value(-42, 0);
        x.edit();
        tell(x, "9(5)");
        x.value(7, 0);
        due("back() with another picture told", x.back(), 1);
        due("number() with another picture told", x.number(), -42L);
        due("back() again", x.back(), 1);
        tell(x, "X");
        x.edit();
        due("back() of a text", x.back(), 0);
        tell(x, "9");
        x.value(77, 0);
        x.size(true);
        x.edit();
        due("back() behind -1", x.back(), 0);
        tell(x, "Q");
        x.edit();
        due("back() behind -2", x.back(), 0);
        due("number() behind refused ones", x.number(), -42L);
    }

    private static void numberLatest() {
        read("What was read back latest: its whole number, as if there was no point; 0 at first");
        EditMoves x = with("-9.99");
        due("number() at first", x.number(), 0L);
        x.value(-123, 2);
        x.edit();
        due("number() without back()", x.number(), 0L);
        x.back();
        due("number() with .", x.number(), -123L);
        tell(x, "9V9");
        x.edit();
        due("number() ahead of the next back()", x.number(), -123L);
        x.back();
        due("number() with V", x.number(), 12L);
        x.value(0, 0);
        x.edit();
        x.back();
        due("number() of 0", x.number(), 0L);
    }

    // Promises 9 to 11.

    private static void currencyBounds() {
        read("The currency sign becomes c (33 .. 126, no digit, no letter, none of * + - , . / ( ) ): what it was");
        String good = "!\"#$%&':;<=>?@[\\]^_`{|}~";
        for (int c = -200; c <= 400; c++) {
            EditMoves x = new EditMoves();
            boolean may = c > 0 && good.indexOf(c) >= 0;
            due("currency(" + c + ")", x.currency(c, false), may ? '$' : -1);
            due("currency behind " + c, x.currency('$', false), may ? c : '$');
        }
        for (char c : good.toCharArray()) {
            EditMoves x = new EditMoves();
            x.currency(c, true);
            tell(x, "" + c + c + "9");
            x.value(5, 0);
            due("5 by the floating " + c, edited(x), " " + c + "5");
        }
    }

    private static void currencyRefused() {
        read("NONE when c is not so");
        for (int c : new int[] {0, 32, 127, '0', '9', 'A', 'Z', 'a', 'z', '*', '+', '-', ',', '.', '/', '(', ')', -1, 256 + '#', 65536 + '#', LOWEST,
            HIGHEST}) {
            EditMoves x = with("$9");
            due("currency(" + c + ")", x.currency(c, true), -1);
            due("$9 behind currency(" + c + ")", edited(x), "$0");
        }
    }

    private static void currencyAfter() {
        read("after doesn't matter");
        EditMoves x = with("#9");
        due("currency(#, true)", x.currency('#', true), (int) '$');
        due("by #", edited(x), "#0");
        due("currency(=, false)", x.currency('=', false), (int) '#');
        due("told(0) of #9 no more", x.told(0), 0);
        due("the result stays", result(x), "#0");
        tell(x, "$9");
        due("told(0) of $9", x.told(0), 0);
        due("currency(=) again", x.currency('=', true), (int) '=');
    }

    private static void zeroFromNowOn() {
        read("Blank when zero from now on, or not: what it was");
        EditMoves x = with("9");
        x.edit();
        due("zero(false) at first", x.zero(false), false);
        due("zero(true)", x.zero(true), false);
        due("the result stays", result(x), "0");
        due("blank", edited(x), " ");
        due("zero(true) again", x.zero(true), true);
        due("zero(false)", x.zero(false), true);
        due("the blank stays", result(x), " ");
        due("0 again", edited(x), "0");
        due("zero(false) again", x.zero(false), false);
        due("size beside it", x.size(false), false);
    }

    private static void sizeFromNowOn() {
        read("Size is asked from now on, or not: what it was");
        EditMoves x = with("9");
        x.value(12, 0);
        due("not asked at first", edited(x), "2");
        due("size(false) at first", x.size(false), false);
        due("size(true)", x.size(true), false);
        due("the result stays", result(x), "2");
        due("asked", x.edit(), -1);
        due("size(true) again", x.size(true), true);
        due("size(false)", x.size(false), true);
        due("no result comes back", x.at(0), -1);
        due("not asked again", edited(x), "2");
        due("zero beside it", x.zero(false), false);
    }

    // Promises 12 to 14.

    private static void suppressedCounts() {
        read("How many places of the result are suppressed (with blanks or stars; also by zero)");
        hidden("9", 0, 0, 0);
        hidden("9BCR", 1, 0, 0);
        hidden("ZZZ9", 1000, 0, 0);
        hidden("ZZZ9", 1, 0, 3);
        hidden("Z,Z,9", 1, 0, 4);
        hidden("*,**9", 1, 0, 4);
        hidden("/ZZ9", 1, 0, 2);
        hidden("$$9", 1, 0, 2);
        hidden("$$9", 12, 0, 1);
        hidden("--9", 1, 0, 2);
        hidden("--,9", -1, 0, 3);
        hidden("ZZ.ZZ", 1, 2, 2);
        hidden("ZZV99", 0, 0, 2);
        hidden("+$ZZ.ZZ", 0, 0, 7);
        hidden("ZVZCR", 0, 0, 4);
        hidden("+*.*", 0, 0, 3);
        hidden("*V*DB", 0, 0, 4);
        EditMoves x = with("+$9.9");
        x.zero(true);
        x.edit();
        due("suppressed() by blank when zero", x.suppressed(), 5);
    }

    private static void suppressedWithout() {
        read("0 without one, or of a text");
        EditMoves x = with("ZZ9");
        due("suppressed() at first", x.suppressed(), 0);
        x.edit();
        tell(x, "XXB");
        due("suppressed() until the next edit()", x.suppressed(), 2);
        x.edit();
        due("suppressed() of a text", x.suppressed(), 0);
        tell(x, "ZZ9");
        x.edit();
        x.picture('Q');
        x.edit();
        due("suppressed() behind -2", x.suppressed(), 0);
        tell(x, "ZZ9");
        x.edit();
        x.size(true);
        x.value(1000, 0);
        x.edit();
        due("suppressed() behind -1", x.suppressed(), 0);
    }

    private static void cutAtBothEnds() {
        read("How many digits that are not 0 were cut by the latest edit() of a number (also -1), at both ends");
        lost("9.9", 0, 0, 0);
        lost("9.9", 12, 1, 0);
        lost("9.9", 112, 1, 1);
        lost("9.9", 123, 2, 1);
        lost("9.9", 1234, 2, 2);
        lost("9.9", 1020304, 3, 3);
        lost("9.9", 100, 0, 1);
        lost("9.9", 1, 18, 1);
        lost("9", Long.MAX_VALUE, 0, 16);
        lost("9", Long.MIN_VALUE, 0, 16);
        lost("V9", Long.MIN_VALUE, 18, 16);
        lost("9(18)", -1_000_000_000_000_000_000L, 0, 1);
        EditMoves x = with("9.9");
        x.size(true);
        x.value(1234, 2);
        due("edit()", x.edit(), -1);
        due("cut() behind -1", x.cut(), 2);
        x.value(5, 0);
        due("cut() until the next edit()", x.cut(), 2);
        x.edit();
        due("cut() of one that fits", x.cut(), 0);
    }

    private static void cutOfText() {
        read("characters that were, of a text");
        EditMoves x = with("XX");
        x.value(Long.MAX_VALUE, 0);
        for (String text : new String[] {"", "a", "ab", "abc", "ab  ", SIXTY, SIXTY + "!"}) {
            say(x, text);
            x.edit();
            due("cut() of text " + text, x.cut(), Math.min(58, Math.max(0, text.length() - 2)));
        }
        x.text(0);
        due("cut() until the next edit()", x.cut(), 58);
    }

    private static void cutElse() {
        read("0 else");
        EditMoves x = with("9");
        due("cut() at first", x.cut(), 0);
        x.value(123, 0);
        x.edit();
        due("cut() of a number", x.cut(), 2);
        x.picture('Q');
        due("edit()", x.edit(), -2);
        due("cut() behind -2", x.cut(), 0);
        tell(x, "9");
        x.edit();
        tell(x, "9B(99)B(99)BB");
        due("edit() of 201 places", x.edit(), -2);
        due("cut() behind 201 places", x.cut(), 0);
    }

    private static void toldOthers() {
        read("NONE for others");
        for (int what : new int[] {-1, 5, 6, 256, 1 << 16, LOWEST, HIGHEST}) {
            due("told(" + what + ") of a number", with("9").told(what), -1);
            due("told(" + what + ") of a text", with("X").told(what), -1);
            due("told(" + what + ") of none", new EditMoves().told(what), -1);
        }
    }

    private static void toldNone() {
        read("0 for none");
        for (String picture : new String[] {"", "Q", "9Q", "Z(19)", "X9", "9(0)", "Z.Z.9", "$$9.9+-"}) {
            EditMoves x = with(picture);
            for (int what = 0; what <= 4; what++) {
                due("told(" + what + ") of " + picture, x.told(what), 0);
            }
        }
        EditMoves x = with("Z.ZCR");
        due("told(3) ahead of none", x.told(3), 5);
        x.picture(0);
        for (int what = 0; what <= 4; what++) {
            due("told(" + what + ") of the emptied", x.told(what), 0);
        }
    }

    private static void toldAsItIs() {
        read("Of the picture as it is told: 1 of a number, 2 of a text, 1 digits ahead of the point, 2 behind it, 3 places, 4 whether all is suppressed");
        EditMoves x = with("ZZ");
        x.edit();
        x.picture('.');
        x.picture('9');
        due("told(0)", x.told(0), 1);
        due("told(1)", x.told(1), 2);
        due("told(2)", x.told(2), 1);
        due("told(3)", x.told(3), 4);
        due("told(4)", x.told(4), 0);
        due("the result is as it was", result(x), "  ");
        tell(x, "X/(3)X");
        due("told(0) of a text", x.told(0), 2);
        due("told(3) of a text", x.told(3), 5);
        told("X/(3)X", 0, 0, 5, 0);
        told("X(99)X(99)X(99)", 0, 0, 297, 0);
        told("ZB(99)B(99)B(99)", 1, 0, 298, 1);
    }
}
