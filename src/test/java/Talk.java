import java.util.ArrayList;
import java.util.List;
import java.util.NoSuchElementException;

/** How tests talk with a chest: texts as strings, rows as lists. */
final class Talk {
    private Talk() {
    }

    /** The text becomes just this. */
    static void text(ChestOfLetters chest, String text) {
        chest.end(0);
        for (int i = 0; i < text.length(); i += 4) {
            int v = 0;
            for (int j = i; j < i + 4; j++) {
                v = v << 8 | (j < text.length() ? text.charAt(j) : 0);
            }
            chest.sign(v);
        }
        chest.end(text.length());
    }

    static int town(ChestOfLetters chest, String text) {
        text(chest, text);
        return chest.town();
    }

    static int rule(ChestOfLetters chest, String text) {
        text(chest, text);
        return chest.rule();
    }

    static int order(ChestOfLetters chest, String text) {
        text(chest, text);
        return chest.order();
    }

    static int spell(ChestOfLetters chest, String text) {
        text(chest, text);
        return chest.spell();
    }

    static ChestOfLetters chest(String... towns) {
        ChestOfLetters chest = new ChestOfLetters();
        for (String town : towns) {
            if (town(chest, town) <= 0) {
                throw new IllegalArgumentException(town);
            }
        }
        return chest;
    }

    static List<Integer> row(ChestOfLetters chest) {
        List<Integer> row = new ArrayList<>();
        int size = chest.count(8);
        for (int i = 0; i < size; i++) {
            row.add(chest.row(i));
        }
        return row;
    }

    static String rowThrows(ChestOfLetters chest, int i) {
        try {
            return "" + chest.row(i);
        } catch (NoSuchElementException e) {
            return "NoSuchElementException";
        }
    }

    static String wall(ChestOfLetters chest, int wall, int what) {
        try {
            return "" + chest.wall(wall, what);
        } catch (NoSuchElementException e) {
            return "NoSuchElementException";
        }
    }
}
