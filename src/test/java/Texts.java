import java.util.ArrayList;
import java.util.List;
import java.util.Random;

/** Chance texts: sound ones, and ones with something changed. The same seed makes the same texts. */
final class Texts {
    private static final String[] NAMES = {"a", "b", "ab", "sea", "salt", "zzzzzz", "q", "harbor", "x"};
    private static final String[] PIECES = {"good", "float", "wants", "like", "town", "gives", "votes", "bound", "ask",
        "ground", "storm", "members", "many", "cost", "pays", "own", "a", "b", "ab", "sea", "harbour", "zzzzzz", "0",
        "1", "2", "6", "7", "12", "20", "21", "63", "64", "99", "100", "999", "1000", "99999999999999999999", "-", "+",
        "*", "/", "(", ")", ";", ";", ";", "\t", "A", "_", "\u00e9", "\n", " "};
    private final Random random;
    private final int floatsMost;

    Texts(Random random, int floatsMost) {
        this.random = random;
        this.floatsMost = floatsMost;
    }

    private int upTo(int most) {
        return random.nextInt(most + 1);
    }

    private boolean oneOf(int n) {
        return random.nextInt(n) == 0;
    }

    /** A text without faults, of at most 800 signs. */
    String sound() {
        for (int tries = 0; tries < 100; tries++) {
            String text = some();
            if (text.length() <= 800) {
                return text;
            }
        }
        return "";
    }

    private String some() {
        StringBuilder text = new StringBuilder();
        int goods = upTo(3) + (oneOf(5) ? 2 : 0);
        int sorts = 1 + upTo(2) + (oneOf(4) ? 2 : 0);
        int towns = upTo(3) + (oneOf(3) ? 1 : 0);
        for (int i = 0; i < goods; i++) {
            text.append("good ").append(NAMES[i]).append(' ').append(upTo(oneOf(3) ? 60 : 9)).append(end());
        }
        int left = floatsMost;
        int told = 0;
        // where all like or hate one another and nobody would be alone, there are rings
        boolean lively = oneOf(3);
        for (int i = 0; i < sorts && left > 0; i++) {
            int many = Math.min(1 + upTo(oneOf(3) ? 5 : 2), left);
            left -= many;
            told++;
            text.append("float ").append(NAMES[i + 2]).append(' ').append(many).append(' ').append(upTo(9)).append(' ')
                .append(upTo(lively ? 6 : 20)).append(' ').append(lively || oneOf(2) ? 0 : upTo(6));
            for (int good = 0; good < goods; good++) {
                if (!oneOf(3)) {
                    text.append(" wants ").append(NAMES[good]).append(' ').append(upTo(oneOf(3) ? 40 : 15));
                }
            }
            text.append(end());
        }
        for (int i = 0; i < told; i++) {
            for (int j = 0; j < told; j++) {
                if (lively || oneOf(2)) {
                    text.append("like ").append(NAMES[i + 2]).append(' ').append(NAMES[j + 2]).append(' ')
                        .append(oneOf(2) ? "-" : "").append(upTo(lively || oneOf(3) ? 20 : 6)).append(end());
                }
            }
        }
        addTowns(text, goods, towns);
        if (oneOf(2)) {
            text.append("storm ").append(2 + upTo(oneOf(3) ? 97 : 20)).append(end());
        }
        return text.toString();
    }

    private void addTowns(StringBuilder text, int goods, int towns) {
        for (int i = 0; i < towns; i++) {
            text.append("town ").append(NAMES[8 - i]);
            for (int good = 0; good < goods; good++) {
                text.append(oneOf(2) ? " gives " + NAMES[good] : "");
            }
            text.append(oneOf(2) ? " votes" : "").append(oneOf(5) ? " bound" : "").append(" ask ")
                .append(oneOf(3) ? rule(3) : "" + upTo(12)).append(end());
            if (oneOf(2)) {
                int wide = 1 + upTo(5);
                text.append("ground ").append(NAMES[8 - i]).append(' ').append(wide);
                for (int row = upTo(6); row > 0; row--) {
                    text.append(' ').append(upTo((1 << wide) - 1) | upTo((1 << wide) - 1));
                }
                text.append(end());
            }
        }
    }

    private String end() {
        return oneOf(8) ? " ;\n" : ";";
    }

    /** An E of at most so many levels. */
    String rule(int depth) {
        String[] names = {"members", "many", "cost", "pays", "own"};
        if (depth == 0 || oneOf(4)) {
            return oneOf(3) ? names[upTo(4)] : "" + upTo(oneOf(4) ? 999 : 9);
        }
        switch (upTo(6)) {
            case 0:
                return "(" + rule(depth - 1) + ")";
            case 1:
                return "- " + rule(0);
            case 2:
                return rule(depth - 1) + "*" + rule(depth - 1);
            case 3:
                return rule(depth - 1) + " / " + rule(depth - 1);
            case 4:
                return rule(depth - 1) + "-" + rule(depth - 1);
            default:
                return rule(depth - 1) + "+" + rule(depth - 1);
        }
    }

    /** A text with something taken out, put in or put in its place. */
    String changed(String text) {
        List<String> tokens = new ArrayList<>();
        for (String piece : text.split("(?<=[ ;\n])")) {
            tokens.add(piece);
        }
        for (int changes = 1 + upTo(1); changes > 0; changes--) {
            int at = upTo(Math.max(0, tokens.size() - 1));
            String piece = PIECES[upTo(PIECES.length - 1)] + (oneOf(3) ? "" : " ");
            switch (upTo(4)) {
                case 0:
                    tokens.remove(at);
                    break;
                case 1:
                    tokens.add(at, piece);
                    break;
                case 2:
                    tokens.add(at, tokens.get(upTo(tokens.size() - 1)));
                    break;
                default:
                    tokens.set(at, piece);
                    break;
            }
            if (tokens.isEmpty()) {
                tokens.add(" ");
            }
        }
        String changed = String.join("", tokens);
        return changed.length() > 800 ? changed.substring(0, 800) : changed;
    }
}
