import java.util.ArrayList;
import java.util.List;
import java.util.function.IntFunction;
import java.util.regex.Matcher;
import java.util.regex.Pattern;

/** TEXTS of RULES as the document's words have them, told from the bytes each time. */
final class OracleText {
    /** What a VALUE fails by; the CHAIN comes as it passes through the RULES. */
    static final class Fails extends RuntimeException {
        final int kind;
        final int place;
        final List<Integer> chain = new ArrayList<>();

        Fails(int kind, int place) {
            this.kind = kind;
            this.place = place;
        }
    }

    private static final Pattern TOKEN = Pattern.compile("[a-z]+|[0-9]+|[^a-z0-9 ]");

    private final List<String> tokens = new ArrayList<>();
    private final List<Integer> places = new ArrayList<>();
    private int at = 0;
    private IntFunction<? extends Number> names = null;

    private OracleText(String text) {
        Matcher matcher = TOKEN.matcher(text);
        while (matcher.find()) {
            tokens.add(matcher.group());
            places.add(matcher.start());
        }
        tokens.add("");
        places.add(text.length());
    }

    private static boolean isNumber(String token) {
        return token.matches("[0-9]{1,4}");
    }

    private static boolean isName(String token) {
        return token.matches("[abcxyzpqrs]");
    }

    private static boolean isFunction(String token) {
        return token.matches("min|max|div|mod");
    }

    /**
     * The place of the FAULT, or -1. What is open stands in a row: ( and |, m for the first half of a function
     * and n for the other, ? for a choice whose : is to come; waits tells of each whether its < has no ? yet.
     */
    static int fault(String text) {
        OracleText it = new OracleText(text);
        String open = "";
        List<Boolean> waits = new ArrayList<>(List.of(false));
        boolean operand = true;
        boolean bracket = false;
        int parts = 0;
        for (int i = 0; i < it.tokens.size(); i++) {
            String token = it.tokens.get(i);
            int place = it.places.get(i);
            char last = open.isEmpty() ? ' ' : open.charAt(open.length() - 1);
            boolean waiting = waits.get(waits.size() - 1);
            boolean opens = false;
            boolean closes = false;
            if (bracket) {
                if (!token.equals("(")) {
                    return place;
                }
                bracket = false;
                opens = true;
            } else if (operand) {
                if (isNumber(token) || isName(token)) {
                    operand = false;
                    parts++;
                } else if (token.equals("-")) {
                    parts++;
                } else if (token.equals("(")) {
                    open += "(";
                    opens = true;
                } else if (token.equals("|")) {
                    open += "|";
                    opens = true;
                    parts++;
                } else if (isFunction(token)) {
                    open += "m";
                    bracket = true;
                    parts++;
                } else {
                    return place;
                }
            } else if (token.equals("+") || token.equals("-") || token.equals("*")) {
                operand = true;
                parts++;
            } else if (token.equals("<") && !waiting) {
                waits.set(waits.size() - 1, true);
                operand = true;
                parts++;
            } else if (token.equals("?") && waiting) {
                waits.set(waits.size() - 1, false);
                waits.add(false);
                open += "?";
                operand = true;
            } else if (token.equals(":") && !waiting && last == '?') {
                closes = true;
                operand = true;
            } else if (token.equals(",") && !waiting && last == 'm') {
                open = open.substring(0, open.length() - 1) + "n";
                operand = true;
            } else if (!waiting && (token.equals(")") && (last == '(' || last == 'n') || token.equals("|") && last == '|')) {
                closes = true;
            } else if (token.isEmpty() && !waiting && open.isEmpty()) {
                return -1;
            } else {
                return place;
            }
            if (parts > 24 || opens && open.replace("?", "").length() > 5) {
                return place;
            }
            if (opens) {
                waits.add(false);
            }
            if (closes) {
                waits.remove(waits.size() - 1);
                open = open.substring(0, open.length() - 1);
            }
        }
        return text.length();
    }

    /** Of a TEXT without FAULT. */
    static int parts(String text) {
        int parts = 0;
        int bars = 0;
        for (String token : new OracleText(text).tokens) {
            parts += isNumber(token) || isName(token) || isFunction(token) || token.matches("[-+*<]") ? 1 : 0;
            bars += token.equals("|") ? 1 : 0;
        }
        return parts + bars / 2;
    }

    static List<Integer> named(String text) {
        List<Integer> named = new ArrayList<>();
        for (String token : new OracleText(text).tokens) {
            if (token.matches("[pqrs]")) {
                named.add(token.charAt(0) - 'p');
            }
        }
        return named;
    }

    /** VALUE of a TEXT without FAULT, by the numbers that the NAMES have. */
    static long value(String text, IntFunction<? extends Number> names) {
        OracleText it = new OracleText(text);
        it.names = names;
        return it.expr(true);
    }

    private boolean eats(String token) {
        boolean is = tokens.get(at).equals(token);
        at += is ? 1 : 0;
        return is;
    }

    // What isn't live is read over.

    private long expr(boolean live) {
        long left = sum(live);
        if (!eats("<")) {
            return left;
        }
        boolean below = left < sum(live);
        eats("?");
        long first = expr(live && below);
        eats(":");
        long second = expr(live && !below);
        return below ? first : second;
    }

    private static long held(long v, int place, boolean live) {
        if (live && (v > 1000000000L || v < -1000000000L)) {
            throw new Fails(2, place);
        }
        return live ? v : 0;
    }

    private long sum(boolean live) {
        long v = product(live);
        while (true) {
            int place = places.get(at);
            if (eats("+")) {
                v = held(v + product(live), place, live);
            } else if (eats("-")) {
                v = held(v - product(live), place, live);
            } else {
                return v;
            }
        }
    }

    private long product(boolean live) {
        long v = factor(live);
        while (true) {
            int place = places.get(at);
            if (!eats("*")) {
                return v;
            }
            v = held(v * factor(live), place, live);
        }
    }

    private long factor(boolean live) {
        String token = tokens.get(at);
        int place = places.get(at);
        at++;
        if (isNumber(token)) {
            return Long.parseLong(token);
        }
        if (isName(token)) {
            return live ? names.apply(token.charAt(0)).longValue() : 0;
        }
        if (token.equals("-")) {
            return held(-factor(live), place, live);
        }
        if (token.equals("(") || token.equals("|")) {
            long v = expr(live);
            at++;
            return token.equals("(") ? v : Math.abs(v);
        }
        at++;
        long left = expr(live);
        at++;
        long right = expr(live);
        at++;
        if (token.equals("min")) {
            return Math.min(left, right);
        }
        if (token.equals("max")) {
            return Math.max(left, right);
        }
        if (!live) {
            return 0;
        }
        if (right == 0) {
            throw new Fails(1, place);
        }
        long quotient = left / right;
        if (quotient * right != left && (left < 0) != (right < 0)) {
            quotient--;
        }
        return token.equals("div") ? quotient : left - quotient * right;
    }
}
