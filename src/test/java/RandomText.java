import java.util.Random;

/** Texts of rules by the grammar, often with a slip. */
final class RandomText {
    private static final String[] NAMES = {"limit", "first", "keep", "cap", "diff", "fee"};
    private static final String[] WORDS = {"day", "month", "price", "lots", "grade", "place"};
    private static final String[] SLIPS = {";", "?", ":", "<", ">", "=", "+", "-", "*", "/", "(", ")", ",",
        "min", "max", "from", "is", "cap", "day", "7", "1000000", "0000000012", "xyz", "mi", "#", "A", "\t", "151",
        "((((((((((((", "------------", "min(1,"};

    private final Random random;
    private final StringBuilder text = new StringBuilder();

    RandomText(Random random) {
        this.random = random;
    }

    String text() {
        int rules = random.nextInt(4) + (random.nextInt(20) == 0 ? 25 : 0);
        for (int i = 0; i < rules; i++) {
            put(NAMES[random.nextInt(6)]);
            put("from");
            put(String.valueOf(random.nextInt(10) == 0 ? random.nextInt(160) : random.nextInt(6)));
            put("is");
            if (random.nextInt(8) == 0) {
                nest(6 + random.nextInt(10));
            } else {
                expr(random.nextInt(rules > 20 ? 2 : 7));
            }
            put(";");
        }
        while (random.nextInt(3) == 0) {
            slip();
        }
        return text.length() > 600 ? text.substring(0, 600) : text.toString();
    }

    private void slip() {
        int at = text.length() == 0 ? 0 : random.nextInt(text.length());
        if (random.nextBoolean() && at < text.length()) {
            text.deleteCharAt(at);
        } else {
            text.insert(at, SLIPS[random.nextInt(SLIPS.length)]);
        }
    }

    private void put(String token) {
        boolean joins = text.length() > 0 && isWordy(text.charAt(text.length() - 1)) && isWordy(token.charAt(0));
        if (joins || random.nextInt(8) == 0) {
            text.append(random.nextInt(5) == 0 ? '\n' : ' ');
        }
        text.append(token);
    }

    private static boolean isWordy(char c) {
        return Character.isLetterOrDigit(c);
    }

    /** So many things open at once, with something small between them. */
    private void nest(int left) {
        if (left == 0) {
            expr(0);
            return;
        }
        if (random.nextInt(6) == 0) {
            factor(0);
            put(random.nextBoolean() ? "-" : "*");
        }
        switch (random.nextInt(5)) {
            case 0:
                put("-");
                put("(");
                nest(Math.max(0, left - 2));
                put(")");
                break;
            case 1:
                factor(0);
                put("?");
                nest(left - 1);
                put(":");
                factor(0);
                break;
            case 2:
                factor(0);
                put("?");
                factor(0);
                put(":");
                nest(left - 1);
                break;
            case 3:
                put("max");
                put("(");
                factor(0);
                put(",");
                nest(left - 1);
                put(")");
                break;
            default:
                put("(");
                nest(left - 1);
                put(")");
                break;
        }
    }

    private void expr(int depth) {
        cond(depth);
        if (depth > 0 && random.nextInt(4) == 0) {
            put("?");
            expr(depth - 1);
            put(":");
            expr(depth - 1);
        }
    }

    private void cond(int depth) {
        sum(depth);
        if (random.nextInt(5) == 0) {
            put(new String[] {"<", ">", "="}[random.nextInt(3)]);
            sum(depth - 1);
        }
    }

    private void sum(int depth) {
        part(depth);
        while (random.nextInt(4) == 0) {
            put(random.nextBoolean() ? "+" : "-");
            part(depth - 1);
        }
    }

    private void part(int depth) {
        factor(depth);
        while (random.nextInt(5) == 0) {
            put(random.nextBoolean() ? "*" : "/");
            factor(depth - 1);
        }
    }

    private void factor(int depth) {
        int dice = random.nextInt(depth > 0 ? 8 : 4);
        if (dice < 2) {
            put(String.valueOf(random.nextInt(8) == 0 ? random.nextInt(1000000) : random.nextInt(12)));
        } else if (dice < 4) {
            put(WORDS[random.nextInt(6)]);
        } else if (dice == 4) {
            put("-");
            factor(depth - 1);
        } else if (dice < 7) {
            put("(");
            expr(depth - 1);
            put(")");
        } else {
            put(random.nextBoolean() ? "min" : "max");
            put("(");
            expr(depth - 1);
            put(",");
            expr(depth - 1);
            put(")");
        }
    }
}
