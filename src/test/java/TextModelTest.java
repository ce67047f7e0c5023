import java.util.ArrayList;
import java.util.Arrays;
import java.util.List;
import java.util.Random;
import java.util.regex.Matcher;
import java.util.regex.Pattern;

/**
 * Random texts, most of them with a byte or a token changed, against a second reader that goes by a list of what
 * is wanted next. The seeds are fixed, so each run is the same.
 */
public final class TextModelTest {
    private static final Pattern TOKEN = Pattern.compile("[a-z]+|[0-9]+|[^ \n]");
    private static final List<String> SORTS = Arrays.asList("dark", "sunny", "noon", "mass", "lamp");
    private static final int[] KINDS = {1, 4, 2, 3, 5};
    private static final String[] PIECES = {"tower", "wall", "shop", "dark", "lamp", "x", "0", "4", "8", "9", "99", "100",
        "000", "0000", "12345", ";", ";;", " ", "\n", "\t", "A", "`", "{", "/", ":", "\u00a0", "\u00ff"};
    private static final Due due = new Due();

    private final Random random;
    private final int[] ground = new int[81];
    private final List<int[]> shops = new ArrayList<>();
    private int tower = -1;
    private int walls;
    private int wallsTold;
    private int x;
    private int fault;
    private int place;

    private TextModelTest(long seed) {
        random = new Random(seed);
    }

    public static void main(String[] args) {
        int[] met = new int[4];
        for (int seed = 1; seed <= 6000; seed++) {
            met[new TextModelTest(seed).compare()]++;
        }
        for (int kind = 0; kind < met.length; kind++) {
            due.is("enough texts of fault " + kind + ": " + met[kind], met[kind] >= 100 ? 1 : 0, 1);
        }
        due.end();
    }

    private int compare() {
        String text = changed(changed(text()));
        text = text.substring(0, Math.min(400, text.length()));
        read(text);
        DialTown town = new DialTown();
        due.is("town of " + text, Due.read(town, text), fault == 0 ? shops.size() : -1000100 - place);
        due.is("fault of " + text, town.fault(), fault);
        due.is("walls of " + text, town.count(2), fault == 0 ? walls : 0);
        for (int shop = 0; shop < shops.size() && fault == 0; shop++) {
            due.is("kind of shop " + shop + " of " + text, town.kind(shop), KINDS[shops.get(shop)[0]]);
            due.is("cell of shop " + shop + " of " + text, town.shop(shop, 0), shops.get(shop)[1]);
            due.is("rent of shop " + shop + " of " + text, town.shop(shop, 1), shops.get(shop)[2]);
        }
        for (int cell = 0; cell < 81 && fault == 0; cell++) {
            due.is("ground " + cell + " of " + text, town.soonest(cell, 0, 0), ground[cell] == 1 ? Due.NONE : 0);
        }
        return fault;
    }

    private String text() {
        StringBuilder text = new StringBuilder(blank(false) + "tower" + cell() + blank(true) + (1 + random.nextInt(8)));
        text.append(blank(false)).append(';');
        boolean isFull = random.nextInt(3) == 0;
        for (int told = isFull ? 19 + random.nextInt(3) : random.nextInt(5); told > 0; told--) {
            text.append(isFull ? "" : blank(false)).append("wall").append(cell()).append(blank(false)).append(';');
        }
        for (int told = isFull ? 7 + random.nextInt(3) : random.nextInt(5); told > 0; told--) {
            text.append("shop ").append(SORTS.get(random.nextInt(5))).append(cell()).append(blank(true));
            text.append(random.nextInt(100)).append(';');
        }
        return text.toString();
    }

    private String cell() {
        return blank(false) + random.nextInt(9) + blank(true) + random.nextInt(9);
    }

    private String blank(boolean isNeeded) {
        String[] blanks = {" ", "\n", "  "};
        int which = random.nextInt(12);
        return which < blanks.length ? blanks[which] : isNeeded ? " " : "";
    }

    private String changed(String text) {
        int at = random.nextInt(text.length() + 1);
        int from = Math.min(at, text.length() - 1);
        String piece = PIECES[random.nextInt(PIECES.length)];
        switch (random.nextInt(8)) {
            case 0: return text.substring(0, from) + piece + text.substring(from + 1);
            case 1: return text.substring(0, at) + piece + text.substring(at);
            case 2: return text.substring(0, from) + text.substring(from + 1);
            case 3: return text.substring(0, Math.max(1, at));
            default: return text;
        }
    }

    /** Takes token by token from the front of what is wanted next; "part" stands for the parts behind the tower. */
    private void read(String text) {
        List<String> wanted = new ArrayList<>(Arrays.asList("tower", "x", "tower y", "1 8", ";", "part"));
        Matcher tokens = TOKEN.matcher(text);
        while (tokens.find()) {
            place = tokens.start();
            fault = take(tokens.group(), wanted);
            if (fault != 0) {
                return;
            }
        }
        place = text.length();
        fault = wanted.get(0).equals("part") ? 0 : 1;
    }

    private int take(String token, List<String> wanted) {
        String want = wanted.remove(0);
        if (want.equals("part")) {
            return takePart(token, wanted);
        }
        if (want.equals("tower") || want.equals(";")) {
            return token.equals(want) ? 0 : 1;
        }
        if (want.equals("sort")) {
            shops.add(new int[] {SORTS.indexOf(token), 0, 0});
            return SORTS.contains(token) ? 0 : 1;
        }
        return token.matches("[0-9]{1,3}") ? takeNumber(Integer.parseInt(token), want) : 1;
    }

    private int takePart(String token, List<String> wanted) {
        boolean isWall = token.equals("wall") && shops.isEmpty();
        if (!isWall && !token.equals("shop")) {
            return 1;
        }
        if (isWall ? wallsTold == 20 : shops.size() == 8) {
            return 3;
        }
        wallsTold += isWall ? 1 : 0;
        String[] next = isWall ? new String[] {"x", "wall y", ";", "part"}
            : new String[] {"sort", "x", "shop y", "0 99", ";", "part"};
        wanted.addAll(Arrays.asList(next));
        return 0;
    }

    private int takeNumber(int number, String want) {
        switch (want) {
            case "x":
                x = number;
                return number <= 8 ? 0 : 2;
            case "1 8":
                return number >= 1 && number <= 8 ? 0 : 2;
            case "0 99":
                shops.get(shops.size() - 1)[2] = number;
                return number <= 99 ? 0 : 2;
            default:
                return number <= 8 ? build(x + 9 * number, want) : 2;
        }
    }

    /** The ground has 1 where nobody can be, 2 where a shop is. */
    private int build(int cell, String want) {
        boolean isTower = cell == tower;
        if (want.equals("tower y")) {
            tower = cell;
            ground[cell] = 1;
        } else if (want.equals("wall y")) {
            walls += ground[cell] == 0 ? 1 : 0;
            ground[cell] = 1;
            return isTower ? 2 : 0;
        } else {
            shops.get(shops.size() - 1)[1] = cell;
            boolean isFree = ground[cell] == 0;
            ground[cell] = 2;
            return isFree ? 0 : 2;
        }
        return 0;
    }
}
