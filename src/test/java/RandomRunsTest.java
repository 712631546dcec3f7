import java.util.Random;
import java.util.function.Consumer;

/** Long runs of calls that come by chance, always the same ones, answered by the class as by the Oracle. */
public final class RandomRunsTest {
    private final Random chance;
    private final CourtMatcher x = new CourtMatcher();
    private final Oracle y = new Oracle();
    /** How many judges and cases come IN. */
    private final int seats;
    private final long[] scales = {1, 3, 10, 40, 1000000000L};
    private final long scale;
    /** One mark in so many isn't FREE; one leaf in so many names a RULE. */
    private final int marksIn;
    private final int namesIn;
    private int calls = 0;

    private RandomRunsTest(long seed, int seats) {
        chance = new Random(seed);
        this.seats = seats;
        scale = scales[upTo(scales.length)];
        marksIn = 1 + upTo(12);
        namesIn = 1 + upTo(6);
    }

    private int upTo(int n) {
        return chance.nextInt(n);
    }

    /** Mostly one of 0 .. n - 1, at times none such. */
    private int about(int n) {
        int sort = upTo(60);
        return sort == 0 ? -1 : sort == 1 ? n : sort == 2 ? (upTo(2) == 0 ? Integer.MIN_VALUE : Integer.MAX_VALUE) : upTo(n);
    }

    private int seat() {
        return upTo(30) == 0 ? about(8) : upTo(seats);
    }

    private void due(String call, long got, long want) {
        calls++;
        Check.due("call " + calls + ": " + call, got, want);
    }

    // ---- texts

    private String number() {
        int sort = upTo(12);
        return sort == 0 ? "00" + upTo(100) : sort == 1 ? "" + upTo(100000) : "" + upTo(sort < 8 ? 5 : 10000);
    }

    private String leaf(int rule) {
        if (upTo(3) == 0) {
            return number();
        }
        if (upTo(namesIn) == 0) {
            int named = upTo(8) == 0 ? upTo(4) : Math.min(3, rule + 1 + upTo(3));
            return "" + "pqrs".charAt(named);
        }
        return "" + "abcxyz".charAt(upTo(6));
    }

    private String expr(int rule, int deep) {
        if (deep <= 0) {
            return leaf(rule);
        }
        String one = expr(rule, deep - 1 - upTo(2));
        String two = expr(rule, deep - 1 - upTo(2));
        switch (upTo(13)) {
            case 0: case 1: return one + "+" + two;
            case 2: return one + "-" + two;
            case 3: return one + "*" + two;
            case 4: return "-" + one;
            case 5: return "(" + one + ")";
            case 6: return "|" + one + "|";
            case 7: return "min(" + one + "," + two + ")";
            case 8: return "max(" + one + " , " + two + ")";
            case 9: return "div(" + one + "," + two + ")";
            case 10: return "mod(" + one + "," + two + ") ";
            case 11: return one + "<" + two + "?" + leaf(rule) + ":" + expr(rule, deep - 2);
            default: return "(" + one + "<" + two + " ? " + leaf(rule) + " : " + leaf(rule) + ")";
        }
    }

    private String broken(String text) {
        String stuff = "abcxyzpqrs0123456789+-*()|,<?: minmaxdivmod;A~";
        StringBuilder s = new StringBuilder(text);
        for (int i = 0; i <= upTo(2) && s.length() > 0; i++) {
            int at = upTo(s.length());
            switch (upTo(3)) {
                case 0: s.deleteCharAt(at); break;
                case 1: s.insert(at, stuff.charAt(upTo(stuff.length()))); break;
                default: s.setCharAt(at, stuff.charAt(upTo(stuff.length())));
            }
        }
        return s.toString();
    }

    private void text() {
        int rule = upTo(4);
        String text = expr(rule, upTo(2) == 0 ? 1 : 1 + upTo(5));
        if (upTo(4) == 0) {
            text = broken(text);
        }
        if (upTo(20) == 0) {
            text = ("((((((((|||||" + text + ")))").substring(upTo(14));
        }
        if (text.length() > 62) {
            text = text.substring(0, 62);
        }
        for (int i = 0; i < text.length(); i++) {
            feed(text.charAt(i));
        }
        int to = upTo(15) == 0 ? about(4) : rule;
        due("text(" + to + ") of '" + text + "'", x.text(to), y.text(to));
    }

    private void feed(int letter) {
        due("feed(" + letter + ")", x.feed(letter), y.feed(letter));
    }

    // ---- calls that change something

    private void change() {
        int judge = seat();
        int matter = seat();
        int side = upTo(40) == 0 ? about(2) : upTo(2);
        switch (upTo(16)) {
            case 0: {
                int is = upTo(20) == 0 ? about(2) : upTo(5) > 0 ? 1 : 0;
                due("here(" + side + ", " + judge + ", " + is + ")", x.here(side, judge, is), y.here(side, judge, is));
                break;
            }
            case 1: case 2: case 3: {
                int which = about(3);
                int v = upTo(10) == 0 ? upTo(2400) - 1200 : upTo(8) - 3;
                due("trait(" + side + ", " + judge + ", " + which + ", " + v + ")",
                    x.trait(side, judge, which, v), y.trait(side, judge, which, v));
                break;
            }
            case 4: case 5: case 6: case 7: {
                long v = upTo(30) == 0 ? scale + upTo(3) - 1 : upTo(12) == 0 ? -1 - upTo(2) : someBurden();
                due("tell(" + judge + ", " + matter + ", " + v + ")", x.tell(judge, matter, v), y.tell(judge, matter, v));
                break;
            }
            case 8: case 9: {
                int mark = upTo(20) == 0 ? about(3) : upTo(marksIn) > 0 ? 0 : 1 + upTo(2);
                due("mark(" + judge + ", " + matter + ", " + mark + ")", x.mark(judge, matter, mark), y.mark(judge, matter, mark));
                break;
            }
            case 10: text(); break;
            case 11: {
                int rule = about(4);
                if (upTo(3) == 0) {
                    due("empty(" + rule + ")", x.empty(rule), y.empty(rule));
                }
                break;
            }
            case 12: due("solve()", x.solve(), y.solve()); break;
            case 13:
                if (upTo(3) == 0) {
                    due("image()", x.image(), y.image());
                } else if (upTo(3) == 0) {
                    due("back()", x.back(), y.back());
                }
                break;
            case 14: host(); break;
            default: lay();
        }
    }

    private long someBurden() {
        return (long) (chance.nextDouble() * (scale + 1));
    }

    private void lay() {
        int sheet = upTo(20) == 0 ? about(4) : upTo(2);
        int judge = seat();
        int sort = upTo(10) == 0 ? about(4) : upTo(3);
        int n = upTo(10) == 0 ? upTo(12) - 1 : 1 + upTo(seats);
        int from = upTo(8) == 0 ? about(40) : upTo(3);
        due("lay(" + sheet + ", " + judge + ", " + sort + ", " + from + ", " + n + ")",
            x.lay(sheet, judge, sort, from, n), y.lay(sheet, judge, sort, from, n));
    }

    private void host() {
        int sheet = upTo(20) == 0 ? about(4) : upTo(3);
        int other = upTo(20) == 0 ? about(4) : upTo(3);
        int i = upTo(10) == 0 ? about(40) : upTo(6);
        switch (upTo(5)) {
            case 0: {
                int sort = upTo(5) == 0 ? upTo(5) - 1 : upTo(3);
                int n = upTo(10) == 0 ? upTo(60) - 10 : upTo(9);
                due("sheet(" + sheet + ", " + sort + ", " + n + ")", x.sheet(sheet, sort, n), y.sheet(sheet, sort, n));
                break;
            }
            case 1: case 2: {
                long v = upTo(4) == 0 ? chance.nextLong() : upTo(seats);
                due("put(" + sheet + ", " + i + ", " + v + ")", x.put(sheet, i, v), y.put(sheet, i, v));
                break;
            }
            case 3: {
                int j = upTo(10) == 0 ? about(40) : upTo(6);
                int n = upTo(10) == 0 ? about(40) : upTo(4);
                due("copy(" + sheet + ", " + i + ", " + other + ", " + j + ", " + n + ")",
                    x.copy(sheet, i, other, j, n), y.copy(sheet, i, other, j, n));
                break;
            }
            default: {
                int which = upTo(6) == 0 ? about(40) : upTo(3);
                due("film(" + sheet + ", " + which + ")", x.film(sheet, which), y.film(sheet, which));
            }
        }
    }

    // ---- calls that only ask

    private void askPairs() {
        int judge = seat();
        int matter = seat();
        String pair = "(" + judge + ", " + matter + ", ";
        int what = about(5);
        int two = about(2);
        int rule = about(4);
        switch (upTo(6)) {
            case 0: due("burden" + pair, x.burden(judge, matter), y.burden(judge, matter)); break;
            case 1: due("open" + pair, x.open(judge, matter), y.open(judge, matter)); break;
            case 2: due("kind" + pair, x.kind(judge, matter), y.kind(judge, matter)); break;
            case 3: due("room" + pair + two + ")", x.room(judge, matter, two), y.room(judge, matter, two)); break;
            case 4: due("why" + pair + what + ")", x.why(judge, matter, what), y.why(judge, matter, what)); break;
            default: due("value(" + rule + ")" + pair, x.value(rule, judge, matter), y.value(rule, judge, matter));
        }
    }

    private void askRest() {
        int i = upTo(4) == 0 ? about(14) : upTo(3);
        int seat = seat();
        int what = about(6);
        int three = about(3);
        int side = about(2);
        int sheet = upTo(20) == 0 ? about(4) : upTo(3);
        String two = "(" + i + ", " + seat + ")";
        switch (upTo(16)) {
            case 0: due("total()", x.total(), y.total()); break;
            case 1: due("many()", x.many(), y.many()); break;
            case 2: due("best" + two, x.best(i, seat), y.best(i, seat)); break;
            case 3: due("next" + two, x.next(i, seat), y.next(i, seat)); break;
            case 4: due("next(" + i + ", -1)", x.next(i, -1), y.next(i, -1)); break;
            case 5: due("fair(" + three + ")", x.fair(three), y.fair(three)); break;
            case 6: due("days(" + (1 + i) + ")", x.days(1 + i), y.days(1 + i)); break;
            case 7: due("day" + two, x.day(i, seat), y.day(i, seat)); break;
            case 8: due("lack(" + three + ")", x.lack(three), y.lack(three)); break;
            case 9: due("without(" + side + ", " + seat + ")", x.without(side, seat), y.without(side, seat)); break;
            case 10: due("tells(" + sheet + ", " + three + ")", x.tells(sheet, three), y.tells(sheet, three)); break;
            case 11: due("round(" + i + ", " + what + ")", x.round(i, what), y.round(i, what)); break;
            case 12: due("price(" + i + ", " + side + ", " + seat + ")", x.price(i, side, seat), y.price(i, side, seat)); break;
            case 13: {
                int of = about(8);
                due("count(" + of + ")", x.count(of), y.count(of));
                break;
            }
            case 14: {
                int rule = about(4);
                int asked = about(5);
                due("told(" + rule + ", " + asked + ")", x.told(rule, asked), y.told(rule, asked));
                break;
            }
            default: due("item(" + sheet + ", " + i + ")", x.item(sheet, i), y.item(sheet, i));
        }
    }

    /** All that can be asked, so that what a run has come to is looked at whole. */
    private void askAll() {
        for (int i = 0; i < 6; i++) {
            due("count " + i, x.count(i), y.count(i));
        }
        due("total", x.total(), y.total());
        due("many", x.many(), y.many());
        for (int i = 0; i < 12; i++) {
            for (int what = -1; what < seats; what++) {
                due("next(" + i + ", " + what + ")", x.next(i, what), y.next(i, what));
            }
        }
        askRounds();
        for (int judge = 0; judge < seats; judge++) {
            for (int matter = 0; matter < seats; matter++) {
                String pair = "(" + judge + ", " + matter + ")";
                due("kind" + pair, x.kind(judge, matter), y.kind(judge, matter));
                due("room 0 " + pair, x.room(judge, matter, 0), y.room(judge, matter, 0));
                due("room 1 " + pair, x.room(judge, matter, 1), y.room(judge, matter, 1));
            }
        }
        for (int i = 0; i < 3; i++) {
            due("fair " + i, x.fair(i), y.fair(i));
            due("lack " + i, x.lack(i), y.lack(i));
        }
        due("days 8", x.days(8), y.days(8));
    }

    /** Burdens come while all are OUT, when telling one asks for little. */
    private void tellAll(int holes) {
        for (int judge = 0; judge < seats; judge++) {
            for (int matter = 0; matter < seats; matter++) {
                long v = upTo(holes) == 0 ? -1 : someBurden();
                due("tell(" + judge + ", " + matter + ", " + v + ")", x.tell(judge, matter, v), y.tell(judge, matter, v));
            }
        }
    }

    private void seatAll() {
        for (int i = 0; i < seats; i++) {
            if (upTo(10) > 0) {
                due("here", x.here(0, i, 1), y.here(0, i, 1));
            }
            if (upTo(6) > 0) {
                due("here", x.here(1, i, 1), y.here(1, i, 1));
            }
        }
    }

    private void run(int length) {
        if (upTo(3) > 0) {
            tellAll(1 + upTo(20));
        }
        seatAll();
        for (int sort = 0; sort < 3; sort++) {
            int n = upTo(seats + 1);
            due("sheet(" + sort + ", " + sort + ", " + n + ")", x.sheet(sort, sort, n), y.sheet(sort, sort, n));
        }
        while (calls < length) {
            int sort = upTo(10);
            if (sort < 3) {
                change();
            } else if (sort < 5) {
                askPairs();
            } else {
                askRest();
            }
        }
        if (seats < 8) {
            askAll();
        }
    }

    private void askRounds() {
        due("solve", x.solve(), y.solve());
        for (int i = 0; i <= y.count(6); i++) {
            for (int what = 0; what < 6; what++) {
                due("round(" + i + ", " + what + ")", x.round(i, what), y.round(i, what));
            }
            for (int who = 0; who < seats; who++) {
                due("price(" + i + ", 0, " + who + ")", x.price(i, 0, who), y.price(i, 0, who));
                due("price(" + i + ", 1, " + who + ")", x.price(i, 1, who), y.price(i, 1, who));
            }
        }
    }

    private void runOfRounds() {
        due("feed", x.feed('d'), y.feed('d'));
        for (int letter : "iv(1,0)".toCharArray()) {
            due("feed", x.feed(letter), y.feed(letter));
        }
        due("text(0)", x.text(0), y.text(0));
        tellAll(upTo(2) == 0 ? 3 : 1000);
        seatAll();
        askRounds();
    }

    private void runOfTexts() {
        for (int i = 0; i < 100; i++) {
            text();
            int seat = upTo(2);
            for (int rule = 0; rule < 4; rule++) {
                for (int what = 0; what < 5; what++) {
                    due("told(" + rule + ", " + what + ")", x.told(rule, what), y.told(rule, what));
                    due("why(" + seat + ", 1, " + what + ")", x.why(seat, 1, what), y.why(seat, 1, what));
                }
                due("value(" + rule + ", " + seat + ", 1)", x.value(rule, seat, 1), y.value(rule, seat, 1));
            }
            if (upTo(3) == 0) {
                int v = upTo(1999) - 999;
                int side = upTo(2);
                int which = upTo(3);
                due("trait", x.trait(side, 1, which, v), y.trait(side, 1, which, v));
            }
        }
    }

    private static void runs(String name, int from, int many, int seats, Consumer<RandomRunsTest> run) {
        Check.test("random runs of " + name, () -> {
            for (int seed = from; seed < from + many; seed++) {
                run.accept(new RandomRunsTest(seed, seats));
            }
        });
    }

    public static void main(String[] args) {
        int times = args.length > 0 ? Integer.parseInt(args[0]) : 1;
        runs("2 by 2", 10000, 300 * times, 2, one -> one.run(500));
        runs("3 by 3", 20000, 400 * times, 3, one -> one.run(500));
        runs("4 by 4", 30000, 400 * times, 4, one -> one.run(500));
        runs("5 by 5", 40000, 200 * times, 5, one -> one.run(300));
        runs("6 by 6", 50000, 100 * times, 6, one -> one.run(300));
        runs("8 by 8", 60000, 5 * times, 8, one -> one.run(120));
        runs("texts", 70000, 200 * times, 2, RandomRunsTest::runOfTexts);
        runs("rounds of 5", 80000, 400 * times, 5, RandomRunsTest::runOfRounds);
        runs("rounds of 8", 90000, 400 * times, 8, RandomRunsTest::runOfRounds);
        Check.end();
    }
}
