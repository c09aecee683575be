import java.math.BigInteger;
import java.util.Random;

/**
 * Made-up runs of calls, compared with a second reading of the document that works on texts and
 * regular expressions, so that a slip in one of the two shows.
 */
public final class SecondReadingTest {
    private static final int RUNS = 3000;
    private static final int CALLS = 512;
    /** A picture of 60 signs told, and one of 200 places edited and looked at. */
    private static final int DEAREST_ROUND = 280;
    private static final String[] WHOLE = {"9", "Z", "*", "+", "-", "$", "B", "0", "/", ",", ".", "V", "X", "CR", "DB", "(2)", "(12)",
        "(0)", "#", "z", "v", "x", "b", "cr", "Q", "(", "1", ")"};
    private static final String[] PARTS_AHEAD = {"", "+", "-", "$", "+$", "-$", "B", "+,", "$/", "0"};
    private static final String[] STRINGS = {"", "ZZ", "Z,ZZ", "***", "*,*", "++", "+,++", "--", "-B-,-", "$$", "$,$$", "$(4)", "Z(3)0Z"};
    private static final String[] NINES = {"", "", "9", "99", ",9", "/9B9", "9(3)"};
    private static final String[] POINTS = {"", ".", "V", ",.", "V/", "./", ",V"};
    private static final String[] BEHIND = {"", "", "Z", "ZZ", "**", "+", "--", "$$", "9", "B"};
    private static final String[] ENDS = {"", "", "", "+", "-", "CR", "DB", "B", ",CR", "-/", "CRB"};

    private static int wrong = 0;
    private static int edited = 0;

    public static void main(String[] args) {
        Random random = new Random(20261115L);
        for (int run = 0; run < RUNS && wrong < 20; run++) {
            oneRun(random);
        }
        System.out.println(wrong == 0 ? edited + " edits agree with the second reading" : wrong + " answers differ");
        if (wrong != 0 || edited < RUNS) {
            System.exit(1);
        }
    }

    private static void due(Reading y, String call, long got, long want) {
        if (got != want) {
            wrong++;
            System.out.println(call + " with picture " + y.picture + " value " + y.v + " scale " + y.scale + " currency " + y.currency
                + " answered " + got + ", due is " + want + " [" + y.result + "]");
        }
    }

    private static void oneRun(Random random) {
        EditMoves x = new EditMoves();
        Reading y = new Reading();
        int calls = 0;
        while (calls < CALLS - DEAREST_ROUND) {
            switch (random.nextInt(8)) {
                case 0: case 1: case 2: calls += tellPicture(x, y, random); break;
                case 3: calls += tellText(x, y, random); break;
                case 4: calls += settings(x, y, random); break;
                default: break;
            }
            int scale = random.nextInt(10) == 0 ? random.nextInt(30) - 5 : random.nextInt(4);
            long v = random.nextLong() >> random.nextInt(64);
            v = random.nextInt(6) == 0 ? 0 : random.nextInt(4) == 0 ? v / 1000 * 1000 : v;
            due(y, "value", x.value(v, scale), y.value(v, scale));
            compare(x, y, random);
            calls += 12 + y.result.length() + 2;
        }
    }

    private static int tellPicture(EditMoves x, Reading y, Random random) {
        StringBuilder all = new StringBuilder();
        if (random.nextInt(5) == 0) {
            for (int n = random.nextInt(7); n >= 0; n--) {
                all.append(pick(random, WHOLE));
            }
        } else if (random.nextInt(12) == 0) {
            all.append("X(").append(random.nextInt(99)).append(")B(60)0/X(").append(random.nextInt(99)).append(")");
        } else {
            all.append(pick(random, PARTS_AHEAD)).append(pick(random, STRINGS)).append(pick(random, NINES));
            if (random.nextBoolean()) {
                all.append(pick(random, POINTS)).append(pick(random, BEHIND)).append(pick(random, NINES));
            }
            all.append(pick(random, ENDS));
        }
        x.picture(0);
        y.picture = "";
        String told = all.toString();
        for (int i = 0; i < told.length(); i++) {
            int c = told.charAt(i) == '$' && random.nextInt(9) != 0 ? y.currency : told.charAt(i);
            c = random.nextInt(200) == 0 ? pickOther(random) : c;
            x.picture(c);
            y.picture += y.picture.length() < 60 ? c >= 1 && c <= 126 ? String.valueOf((char) c) : "?" : "";
        }
        return told.length() + 1;
    }

    /** None of these is 0: the second reading writes them as a question mark, which is no sign either. */
    private static int pickOther(Random random) {
        int c = random.nextInt();
        return random.nextBoolean() ? -1 - random.nextInt(200) : c >= 0 && c <= 126 ? 127 : c;
    }

    private static int tellText(EditMoves x, Reading y, Random random) {
        x.text(7);
        y.text = "";
        int n = random.nextInt(20);
        for (int i = 0; i < n; i++) {
            int c = 32 + random.nextInt(95);
            x.text(c);
            y.text += (char) c;
        }
        return n + 1;
    }

    private static int settings(EditMoves x, Reading y, Random random) {
        boolean on = random.nextBoolean();
        due(y, "zero", x.zero(on) ? 1 : 0, y.blankWhenZero ? 1 : 0);
        y.blankWhenZero = on;
        boolean asked = random.nextInt(3) == 0;
        due(y, "size", x.size(asked) ? 1 : 0, y.sizeAsked ? 1 : 0);
        y.sizeAsked = asked;
        char c = "$#=Z*`".charAt(random.nextInt(6));
        boolean good = c != 'Z' && c != '*';
        due(y, "currency", x.currency(c, on), good ? y.currency : -1);
        y.currency = good ? c : y.currency;
        return 3;
    }

    private static void compare(EditMoves x, Reading y, Random random) {
        for (int what = 0; what < 5; what++) {
            due(y, "told(" + what + ")", x.told(what), y.told(what));
        }
        int got = x.edit();
        due(y, "edit", got, y.edit());
        edited += got > 0 ? 1 : 0;
        due(y, "cut", x.cut(), y.cut);
        due(y, "suppressed", x.suppressed(), y.suppressed);
        for (int i = -1; i <= y.result.length(); i++) {
            due(y, "at(" + i + ")", x.at(i), i < 0 || i >= y.result.length() ? -1 : y.result.charAt(i));
        }
        if (random.nextBoolean()) {
            due(y, "back", x.back(), y.back());
        }
        due(y, "number", x.number(), y.number);
    }

    private static String pick(Random random, String[] from) {
        return from[random.nextInt(from.length)];
    }

    /** The document read a second time; signs are written c for CR, d for DB, $ for the currency. */
    private static final class Reading {
        String picture = "";
        String text = "";
        long v = 0;
        int scale = 0;
        char currency = '$';
        boolean blankWhenZero = false;
        boolean sizeAsked = false;
        String result = "";
        String resultSigns = "";
        int cut = 0;
        int suppressed = 0;
        long number = 0;

        int value(long newV, int newScale) {
            if (newScale < 0 || newScale > 18) {
                return 0;
            }
            v = newV;
            scale = newScale;
            return 1;
        }

        /** The signs one by one with counts carried out, or null. */
        String signs() {
            StringBuilder all = new StringBuilder();
            String rest = picture;
            while (!rest.isEmpty()) {
                String upper = rest.toUpperCase();
                String sign;
                if (rest.charAt(0) == currency) {
                    sign = "$";
                    rest = rest.substring(1);
                } else if (upper.startsWith("CR") || upper.startsWith("DB")) {
                    sign = upper.startsWith("CR") ? "c" : "d";
                    rest = rest.substring(2);
                } else if ("9Z*+-B0/,.VX".indexOf(upper.charAt(0)) >= 0) {
                    sign = upper.substring(0, 1);
                    rest = rest.substring(1);
                } else {
                    return null;
                }
                int count = 1;
                if (rest.startsWith("(")) {
                    if (!rest.matches("\\([0-9]{1,2}\\)(?s:.*)")) {
                        return null;
                    }
                    count = Integer.parseInt(rest.substring(1, rest.indexOf(')')));
                    rest = rest.substring(rest.indexOf(')') + 1);
                    if (count == 0) {
                        return null;
                    }
                }
                all.append(sign.repeat(count));
            }
            return all.toString();
        }

        int kind(String signs) {
            if (signs == null) {
                return 0;
            }
            if (signs.matches("[XB0/]*X[XB0/]*")) {
                return 2;
            }
            if (signs.matches(".*[cd].+")) {
                return 0;
            }
            String bare = signs.replaceAll("[B0/,]", "");
            String lead = "(?:[+-]\\$?%s|\\$?%s[-+cd]?)";
            boolean good = matches(bare, lead, "9*(?:[.V]9*)?")
                || matches(bare, lead, tail("Z+", "Z*"))
                || matches(bare, lead, tail("\\*+", "\\**"))
                || matches(bare, "(?:[+-]%s|%s[-+cd]?)", tail("\\$\\$+", "\\$*"))
                || matches(bare, "(?:-?\\$?%s|\\$?%s)", tail("\\+\\++", "\\+*"))
                || matches(bare, "(?:\\+?\\$?%s|\\$?%s)", tail("--+", "-*"));
            int digits = digitsOf(signs).replaceAll("[^D]", "").length();
            return good && digits >= 1 && digits <= 18 ? 1 : 0;
        }

        private static boolean matches(String bare, String frame, String middle) {
            return bare.matches(String.format(frame, middle, middle));
        }

        private static String tail(String string, String more) {
            return string + "(?:9*|9*[.V]9*|[.V]" + more + "9*)";
        }

        private static char stringSign(String signs) {
            String bare = signs.replaceAll("[B0/,]", "");
            for (char c : new char[] {'Z', '*'}) {
                if (bare.indexOf(c) >= 0) {
                    return c;
                }
            }
            for (char c : new char[] {'+', '-', '$'}) {
                if (bare.contains("" + c + c)) {
                    return c;
                }
            }
            return 0;
        }

        /** D at the places of the digits, F at the first floating sign. */
        private static String digitsOf(String signs) {
            char string = stringSign(signs);
            boolean floats = string != 0 && string != 'Z' && string != '*';
            int first = string == 0 ? -1 : signs.indexOf(string);
            StringBuilder all = new StringBuilder();
            for (int i = 0; i < signs.length(); i++) {
                char c = signs.charAt(i);
                boolean digit = c == '9' || c == string && !(floats && i == first);
                all.append(digit ? 'D' : c == string ? 'F' : c);
            }
            return all.toString();
        }

        private static int digitsIn(String digits) {
            return digits.replaceAll("[^D]", "").length();
        }

        private static int point(String signs) {
            int at = Math.max(signs.indexOf('.'), signs.indexOf('V'));
            return at < 0 ? signs.length() : at;
        }

        private static int places(String signs) {
            return signs.replace("V", "").replaceAll("[cd]", "12").length();
        }

        int told(int what) {
            String signs = signs();
            int kind = kind(signs);
            if (kind == 0 || what == 0) {
                return kind;
            }
            if (what == 3) {
                return places(signs);
            }
            if (kind == 2) {
                return 0;
            }
            String digits = digitsOf(signs);
            int point = point(signs);
            return what == 1 ? digitsIn(digits.substring(0, point)) : what == 2 ? digitsIn(digits.substring(point))
                : signs.indexOf('9') < 0 ? 1 : 0;
        }

        int edit() {
            result = "";
            resultSigns = "";
            cut = 0;
            suppressed = 0;
            String signs = signs();
            int kind = kind(signs);
            if (kind == 0 || places(signs) > 200) {
                return -2;
            }
            return kind == 2 ? editText(signs) : editNumber(signs);
        }

        private int editText(String signs) {
            String rest = text;
            for (char c : signs.toCharArray()) {
                if (c == 'X') {
                    result += rest.isEmpty() ? " " : rest.substring(0, 1);
                    rest = rest.isEmpty() ? rest : rest.substring(1);
                } else {
                    result += c == 'B' ? ' ' : c;
                }
            }
            cut = rest.length();
            return result.length();
        }

        private int editNumber(String signs) {
            int ahead = told(1);
            int behind = told(2);
            String all = "0".repeat(40) + BigInteger.valueOf(v).abs();
            String whole = all.substring(0, all.length() - scale);
            String part = all.substring(all.length() - scale) + "0".repeat(40);
            String high = whole.substring(0, whole.length() - ahead);
            String came = whole.substring(whole.length() - ahead) + part.substring(0, behind);
            String low = part.substring(behind);
            cut = (high + low).replace("0", "").length();
            if (sizeAsked && !high.replace("0", "").isEmpty()) {
                return -1;
            }
            boolean zero = came.replace("0", "").isEmpty();
            char string = stringSign(signs);
            if (zero && string == '*' && signs.indexOf('9') < 0) {
                result = spread(signs).replaceAll("[^.]", "*");
                suppressed = result.replace(".", "").length();
            } else if (zero && (signs.indexOf('9') < 0 || blankWhenZero && string != '*')) {
                result = " ".repeat(places(signs));
                suppressed = result.length();
            } else {
                result = written(signs, came, v < 0 && !zero);
            }
            resultSigns = spread(digitsOf(signs));
            return result.length();
        }

        private static String spread(String signs) {
            return signs.replace("V", "").replace("c", "cc").replace("d", "dd");
        }

        /** First every place as if nothing was suppressed, then the suppressed stretch put over it. */
        private String written(String signs, String came, boolean negative) {
            String digits = digitsOf(signs);
            String[] places = new String[signs.length()];
            int next = 0;
            for (int i = 0; i < places.length; i++) {
                places[i] = digits.charAt(i) == 'D' ? came.substring(next, ++next) : plain(signs.charAt(i), negative);
            }
            char string = stringSign(signs);
            if (string != 0) {
                int first = signs.indexOf(string);
                int shown = first;
                while (!isShown(signs.charAt(shown), digits.charAt(shown), places[shown], string)) {
                    places[shown] = string == '*' ? "*" : " ";
                    shown++;
                }
                suppressed = shown - first;
                if (string != 'Z' && string != '*') {
                    places[shown - 1] = plain(string, negative);
                }
            }
            return String.join("", places);
        }

        private static boolean isShown(char sign, char digit, String place, char string) {
            return sign == '9' || sign == '.' || sign == 'V' || sign == string && digit == 'D' && !place.equals("0");
        }

        private String plain(char sign, boolean negative) {
            switch (sign) {
                case 'B': return " ";
                case 'V': return "";
                case '+': return negative ? "-" : "+";
                case '-': return negative ? "-" : " ";
                case 'c': return negative ? "CR" : "  ";
                case 'd': return negative ? "DB" : "  ";
                case '$': return String.valueOf(currency);
                default: return String.valueOf(sign);
            }
        }

        int back() {
            if (resultSigns.isEmpty()) {
                return 0;
            }
            String read = "0";
            for (int i = 0; i < result.length(); i++) {
                if (resultSigns.charAt(i) == 'D') {
                    read += Character.isDigit(result.charAt(i)) ? result.charAt(i) : '0';
                }
            }
            boolean negative = result.contains("-") || result.contains("CR") || result.contains("DB");
            number = negative ? -Long.parseLong(read) : Long.parseLong(read);
            return 1;
        }
    }
}
