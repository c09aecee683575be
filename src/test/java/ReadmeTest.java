import java.io.IOException;
import java.lang.reflect.Method;
import java.lang.reflect.Modifier;
import java.math.BigDecimal;
import java.nio.file.Files;
import java.nio.file.Path;
import java.util.List;
import java.util.TreeSet;
import java.util.regex.Matcher;
import java.util.regex.Pattern;

/** What README.md shows is what the class does. */
public final class ReadmeTest {
    private static final Pattern EXAMPLE = Pattern.compile("(\\S+) +(\"[^\"]*\"|-?[0-9.]+) +\\[(.*)\\]");
    private static final Pattern CALL = Pattern.compile("\\| `(\\w+)\\(.*");
    private static final int FEWEST_EXAMPLES = 20;

    private static int wrong = 0;

    public static void main(String[] args) throws IOException {
        List<String> lines = Files.readAllLines(Path.of("README.md"));
        examples(lines);
        callsAreTheFace(lines);
        firstExample();
        unclearPlaces();
        System.out.println(wrong == 0 ? "README.md shows what the class does" : wrong + " answers are not as README.md shows");
        if (wrong != 0) {
            System.exit(1);
        }
    }

    private static void due(String what, Object got, Object want) {
        if (!got.equals(want)) {
            wrong++;
            System.out.println(what + ": the class has [" + got + "], README.md [" + want + "]");
        }
    }

    private static void examples(List<String> lines) {
        int seen = 0;
        for (String line : lines) {
            Matcher parts = EXAMPLE.matcher(line);
            if (parts.matches()) {
                seen++;
                due(line, edited(parts.group(1), parts.group(2)), parts.group(3));
            }
        }
        due("whether the examples were found", seen >= FEWEST_EXAMPLES, true);
    }

    private static String edited(String picture, String what) {
        EditMoves x = with(picture);
        if (what.startsWith("\"")) {
            for (char c : what.substring(1, what.length() - 1).toCharArray()) {
                x.text(c);
            }
        } else {
            BigDecimal number = new BigDecimal(what);
            x.value(number.unscaledValue().longValueExact(), number.scale());
        }
        return result(x, x.edit());
    }

    private static EditMoves with(String picture) {
        EditMoves x = new EditMoves();
        for (char c : picture.toCharArray()) {
            x.picture(c);
        }
        return x;
    }

    private static String result(EditMoves x, int places) {
        StringBuilder all = new StringBuilder();
        for (int i = 0; i < places; i++) {
            all.append((char) x.at(i));
        }
        return all.toString();
    }

    private static void callsAreTheFace(List<String> lines) {
        TreeSet<String> shown = new TreeSet<>();
        for (String line : lines) {
            Matcher call = CALL.matcher(line);
            if (call.matches()) {
                shown.add(call.group(1));
            }
        }
        TreeSet<String> face = new TreeSet<>();
        for (Method method : EditMoves.class.getDeclaredMethods()) {
            if (Modifier.isPublic(method.getModifiers())) {
                face.add(method.getName());
            }
        }
        due("the calls", face, shown);
    }

    private static void firstExample() {
        EditMoves x = with("$$,$$9.99CR");
        x.value(-1234, 2);
        due("places of the first example", x.edit(), 11);
        due("back() of the first example", x.back(), 1);
        due("number() of the first example", x.number(), -1234L);
    }

    private static void unclearPlaces() {
        due("+--9", with("+--9").told(0), 1);
        due("-$++9", with("-$++9").told(0), 1);
        due(".ZZ", with(".ZZ").told(0), 0);
        due("$.$$", with("$.$$").told(0), 0);
        due("+.++", with("+.++").told(0), 0);
        EditMoves large = with("9B(99)B(99)B(2)");
        due("told(0) of 201 places", large.told(0), 1);
        due("told(3) of 201 places", large.told(3), 201);
        due("edit() of 201 places", large.edit(), -2);
        due("told(5) without a picture", with("").told(5), EditMoves.NONE);
        EditMoves refused = with("9");
        refused.value(12, 0);
        refused.edit();
        due("cut() of 12 by 9", refused.cut(), 1);
        refused.picture('Q');
        due("edit() by 9Q", refused.edit(), -2);
        due("cut() behind -2", refused.cut(), 0);
    }
}
