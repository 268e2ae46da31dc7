import java.util.ArrayList;
import java.util.List;

/**
 * The rules' texts, written a second time in another way: a table of what may follow, with a stack
 * of what is open, finds the faults; expressions are worked out from their tokens each time.
 */
final class RuleModel {
    private static final List<String> NAMES = List.of("limit", "first", "keep", "cap", "diff", "fee");
    private static final List<String> WORDS = List.of("day", "month", "price", "lots", "grade", "place");
    private static final List<String> OTHERS = List.of("from", "is", "min", "max");

    private record Token(String text, int place) {
    }

    private record Rule(String name, int from, List<String> tokens) {
    }

    private enum State { NAME, FROM, DAY, IS, VALUE, BRACKET, SIGN }

    private final List<Rule> rules = new ArrayList<>();
    int fault;
    int place;

    private List<Token> tokens;
    private int badPlace;
    private State state;
    private StringBuilder open;
    private List<Boolean> compared;
    private boolean pair;
    private int inExpr;

    int size() {
        return rules.size();
    }

    int tell(String text) {
        split(text);
        fault = 0;
        place = 0;
        state = State.NAME;
        List<Rule> found = new ArrayList<>();
        int begin = 0;
        for (int i = 0; i < tokens.size() && fault == 0; i++) {
            String t = tokens.get(i).text;
            if (state == State.NAME) {
                begin = i;
            }
            fault = look(t, rules.size() + found.size());
            place = fault == 0 ? 0 : tokens.get(i).place;
            if (fault == 0 && t.equals(";")) {
                List<String> expr = new ArrayList<>();
                for (int k = begin + 4; k < i; k++) {
                    expr.add(tokens.get(k).text);
                }
                found.add(new Rule(tokens.get(begin).text, Integer.parseInt(tokens.get(begin + 2).text), expr));
            }
        }
        if (fault == 0 && badPlace >= 0) {
            fault = 1;
            place = badPlace;
        } else if (fault == 0 && state != State.NAME) {
            fault = 2;
            place = text.length();
        }
        if (fault != 0) {
            return -1;
        }
        rules.addAll(found);
        return found.size();
    }

    /** Tokens up to the first that is none, whose place is kept. */
    private void split(String text) {
        tokens = new ArrayList<>();
        badPlace = -1;
        int i = 0;
        while (i < text.length()) {
            String rest = text.substring(i);
            String token;
            if (rest.matches("(?s)[ \n].*")) {
                i++;
                continue;
            } else if (rest.matches("(?s)[a-z].*")) {
                token = rest.replaceAll("(?s)^([a-z]+).*", "$1");
            } else if (rest.matches("(?s)[0-9].*")) {
                token = rest.replaceAll("(?s)^([0-9]+).*", "$1");
            } else {
                token = rest.substring(0, 1);
            }
            boolean word = NAMES.contains(token) || WORDS.contains(token) || OTHERS.contains(token);
            boolean number = token.matches("0*[0-9]{1,6}");
            if (!word && !number && !token.matches("[;?:<>=+\\-*/(),]")) {
                badPlace = i;
                return;
            }
            tokens.add(new Token(token, i));
            i += token.length();
        }
    }

    private int look(String t, int before) {
        switch (state) {
            case NAME:
                if (!NAMES.contains(t)) {
                    return 2;
                }
                state = State.FROM;
                return before >= 30 ? 4 : 0;
            case FROM:
                state = State.DAY;
                return t.equals("from") ? 0 : 2;
            case DAY:
                state = State.IS;
                return t.matches("[0-9]+") && Integer.parseInt(t) <= 150 ? 0 : 2;
            case IS:
                state = State.VALUE;
                open = new StringBuilder();
                compared = new ArrayList<>(List.of(false));
                inExpr = 0;
                return t.equals("is") ? 0 : 2;
            default:
                return lookInExpr(t);
        }
    }

    private int lookInExpr(String t) {
        if (state == State.SIGN && t.equals(";")) {
            closeChoices();
            state = State.NAME;
            return open.length() == 0 ? 0 : 2;
        }
        boolean fits = state == State.VALUE ? value(t) : state == State.BRACKET ? bracket(t) : sign(t);
        inExpr++;
        if (!fits) {
            return 2;
        }
        return open.length() > 12 ? 3 : inExpr > 60 ? 4 : 0;
    }

    private void push(char what) {
        open.append(what);
        compared.add(false);
    }

    private char top() {
        return open.length() == 0 ? ' ' : open.charAt(open.length() - 1);
    }

    private void drop() {
        open.setLength(open.length() - 1);
        compared.remove(compared.size() - 1);
    }

    private void closeChoices() {
        while (top() == ':') {
            drop();
        }
    }

    private void valueEnds() {
        while (top() == '-') {
            drop();
        }
        state = State.SIGN;
    }

    private boolean value(String t) {
        if (t.matches("[0-9]+") || WORDS.contains(t)) {
            valueEnds();
        } else if (t.equals("-") || t.equals("(")) {
            push(t.charAt(0));
        } else if (t.equals("min") || t.equals("max")) {
            state = State.BRACKET;
        } else {
            return false;
        }
        return true;
    }

    private boolean bracket(String t) {
        push('m');
        state = State.VALUE;
        return t.equals("(");
    }

    private boolean sign(String t) {
        switch (t) {
            case "+": case "-": case "*": case "/":
                state = State.VALUE;
                return true;
            case "<": case ">": case "=":
                state = State.VALUE;
                return !compared.set(compared.size() - 1, true);
            case "?":
                push('?');
                state = State.VALUE;
                return true;
            case ":":
                return turn('?', ':');
            case ",":
                return turn('m', ',');
            case ")":
                closeChoices();
                if (top() != '(' && top() != ',') {
                    return false;
                }
                drop();
                valueEnds();
                return true;
            default:
                return false;
        }
    }

    private boolean turn(char from, char to) {
        closeChoices();
        if (top() != from) {
            return false;
        }
        drop();
        push(to);
        state = State.VALUE;
        return true;
    }

    // ---- what they come to

    private List<String> expr;
    private int at;
    private int[] words;

    int value(int name, int... given) {
        Rule best = null;
        for (int day = given[0]; day >= 0 && best == null; day--) {
            for (Rule r : rules) {
                if (r.from == day && r.name.equals(NAMES.get(name))) {
                    best = r;
                }
            }
        }
        if (best == null) {
            return name == 0 || name == 3 ? 1000 : 0;
        }
        expr = best.tokens;
        at = 0;
        words = given;
        return choice();
    }

    private boolean next(String t) {
        if (at < expr.size() && expr.get(at).equals(t)) {
            at++;
            return true;
        }
        return false;
    }

    private int choice() {
        int cond = comparison();
        if (!next("?")) {
            return cond;
        }
        int yes = choice();
        next(":");
        int no = choice();
        return cond == 0 ? no : yes;
    }

    private int comparison() {
        int left = sum();
        if (next("<")) {
            return Integer.compare(left, sum()) < 0 ? 1 : 0;
        } else if (next(">")) {
            return Integer.compare(left, sum()) > 0 ? 1 : 0;
        } else if (next("=")) {
            return Integer.compare(left, sum()) == 0 ? 1 : 0;
        }
        return left;
    }

    private int sum() {
        long sum = product();
        while (true) {
            if (next("+")) {
                sum = (int) (sum + product());
            } else if (next("-")) {
                sum = (int) (sum - product());
            } else {
                return (int) sum;
            }
        }
    }

    private int product() {
        long product = factor();
        while (true) {
            if (next("*")) {
                product = (int) (product * factor());
            } else if (next("/")) {
                long by = factor();
                product = by == 0 ? 0 : (int) (product / by);
            } else {
                return (int) product;
            }
        }
    }

    private int factor() {
        String t = expr.get(at++);
        if (t.equals("-")) {
            return (int) -(long) factor();
        } else if (t.equals("(")) {
            int inner = choice();
            next(")");
            return inner;
        } else if (t.equals("min") || t.equals("max")) {
            next("(");
            int a = choice();
            next(",");
            int b = choice();
            next(")");
            return t.equals("min") == a < b ? a : b;
        }
        return WORDS.contains(t) ? words[WORDS.indexOf(t)] : Integer.parseInt(t);
    }
}
