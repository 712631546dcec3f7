/** Terms 3, promises 14 to 16: each bound from inside and from outside, each refusal, and that it changes nothing. */
public final class BoundsOfRoundsTest extends Scene {
    private static final int[] NO_FACT = {-1, 6, 7, LOW, HIGH};

    private static void rounds(CourtMatcher x, long[][] want) {
        due("solve()", x.solve(), want.length);
        due("ROUNDS that are kept", x.count(6), want.length);
        for (int i = 0; i < want.length; i++) {
            for (int what = 0; what < 6; what++) {
                due("round(" + i + ", " + what + ")", x.round(i, what), want[i][what]);
            }
        }
        due("no more", x.round(want.length, 0), NO);
    }

    private static void prices(CourtMatcher x, int i, int side, long... want) {
        for (int who = 0; who < 8; who++) {
            due("price(" + i + ", " + side + ", " + who + ")", x.price(i, side, who), who < want.length ? want[who] : 0);
        }
    }

    /** n judges and cases; each RISE is LIMIT, as often as it can be. */
    private static CourtMatcher stairs(int n) {
        long[][] burdens = new long[n][n];
        for (long[] row : burdens) {
            java.util.Arrays.fill(row, -1);
        }
        burdens[0][0] = 0;
        burdens[1][0] = LIMIT;
        burdens[0][1] = 0;
        for (int matter = 2; matter < n; matter++) {
            burdens[matter - 1][matter] = 0;
            burdens[matter][matter] = LIMIT;
        }
        return court(burdens);
    }

    private static void firstPrices() {
        test("terms 3: TOLLS are 0, PAY of a case is the least BURDEN of its OPEN PAIRS", () -> {
            CourtMatcher x = court(new long[][] {{4, 9}, {6, 7}});
            x.solve();
            prices(x, 0, 0);
            prices(x, 0, 1, 4, 7);
        });
        test("terms 3: PAY 0 of a case IN without OPEN PAIR, of one that is OUT", () -> {
            CourtMatcher x = court(new long[][] {{4, -1, 5}, {6, -1, 7}});
            x.here(1, 2, 0);
            x.solve();
            prices(x, 0, 1, 4, 0, 0);
        });
        test("terms 3: PAY looks at OPEN PAIRS alone", () -> {
            CourtMatcher x = court(new long[][] {{1, 8}, {6, 2}, {7, 3}});
            x.mark(0, 0, 1);
            x.here(0, 1, 0);
            x.solve();
            prices(x, 0, 1, 7, 3);
            x.here(0, 1, 1);
            x.mark(2, 1, 2);
            x.solve();
            due("beside a FORCED one", x.price(0, 1, 0), 6);
            due("the FORCED one alone", x.price(0, 1, 1), 3);
        });
        test("terms 3: PAY 0 and PAY LIMIT", () -> {
            CourtMatcher x = court(new long[][] {{0, LIMIT}});
            x.here(0, 1, 1);
            x.tell(1, 1, LIMIT);
            x.solve();
            prices(x, 0, 1, 0, LIMIT);
        });
    }

    private static void marks() {
        test("terms 3, TIGHT: SLACK 0, not 1", () -> {
            due("3 and 4", tightOnes(3, 4, 5), 1);
            due("3 and 3", tightOnes(3, 3, 4), 2);
            due("all", tightOnes(3, 3, 3), 3);
            due("0", tightOnes(0, 0, 1), 2);
        });
        test("terms 3: nothing is IN, one ROUND without anything", () ->
            rounds(new CourtMatcher(), new long[][] {{0, 0, 0, 0, NONE, 0}}));
        test("terms 3: judges alone, one ROUND without anything", () ->
            rounds(court(8, 0), new long[][] {{0, 0, 0, 0, NONE, 0}}));
        test("terms 3: cases alone, all MARKED, one ROUND", () ->
            rounds(court(0, 8), new long[][] {{0, 255, 0, 0, NONE, 0}}));
        test("terms 3: nothing MARKED, the last ROUND", () ->
            rounds(court(8, 8), new long[][] {{8, 0, 0, 65280, NONE, 64}}));
        test("terms 3: MARKED ones without RISE, the last ROUND", () ->
            rounds(court(7, 8), new long[][] {{7, 255, 127, 127, NONE, 56}}));
        test("terms 3: MARKED cases are those that some GREATEST leaves out", () -> {
            // judge 0 is for case 0 or 1, judge 1 for case 2 alone
            rounds(court(new long[][] {{2, 2, -1}, {-1, -1, 5}}), new long[][] {{2, 3, 1, 1025, NONE, 3}});
            // that judge 0 may have case 2 as well is no help to judge 1
            rounds(court(new long[][] {{2, 2, 5}, {-1, -1, 5}}), new long[][] {{2, 3, 1, 1025, NONE, 4}});
            // judge 1 may have case 1 as well: each of the three is left out by some one
            rounds(court(new long[][] {{2, 2, -1}, {-1, 2, 5}}), new long[][] {{2, 7, 3, 3, NONE, 4}});
        });
        test("terms 3: MARKED judges have a TIGHT PAIR with a MARKED case, an OPEN one doesn't do", () ->
            rounds(court(new long[][] {{1, 1}, {4, 6}}), new long[][] {{1, 3, 1, 1, 3, 2}, {2, 0, 0, 768, NONE, 3}}));
        test("terms 3: a case without OPEN PAIR is MARKED in all, its PAY rises with the others", () -> {
            CourtMatcher x = court(new long[][] {{1, 2, -1}, {5, 9, -1}});
            rounds(x, new long[][] {{1, 7, 1, 1, 4, 2}, {2, 4, 0, 768, NONE, 3}});
            prices(x, 0, 1, 1, 2, 0);
            prices(x, 1, 1, 5, 6, 4);
            prices(x, 1, 0, 4, 0);
        });
        test("terms 3: a case that isn't MARKED, a judge who isn't, stay as they were", () -> {
            CourtMatcher x = court(new long[][] {{0, 0, 0}, {1, 5, 9}, {3, 9, 20}});
            rounds(x, new long[][] {{1, 7, 1, 1, 1, 3}, {2, 6, 1, 257, 4, 4}, {2, 7, 3, 3, 2, 4},
                {3, 0, 0, 1792, NONE, 5}});
            prices(x, 1, 0, 1, 0, 0);
            prices(x, 1, 1, 1, 1, 1);
            prices(x, 2, 0, 5, 0, 0);
            prices(x, 2, 1, 1, 5, 5);
            prices(x, 3, 0, 7, 2, 0);
            prices(x, 3, 1, 3, 7, 7);
        });
        test("terms 3, RISE: the least SLACK, 1 and LIMIT", () -> {
            due("1", firstRise(5, 6, 9), 1);
            due("of either case", firstRise(5, 9, 6), 1);
            due("LIMIT", firstRise(0, LIMIT, LIMIT), LIMIT);
            due("LIMIT - 1", firstRise(0, LIMIT, LIMIT - 1), LIMIT - 1);
            CourtMatcher x = court(new long[][] {{5, 9}, {1, 1}});
            x.solve();
            due("by the first PAIR", x.round(0, 4), 4);
            CourtMatcher last = new CourtMatcher();
            for (int i = 6; i < 8; i++) {
                last.here(0, i, 1);
                last.here(1, i, 1);
            }
            last.tell(7, 7, 3);
            last.tell(7, 6, 8);
            last.solve();
            due("by the last PAIR", last.round(0, 4), 3);
        });
        test("terms 3, RISE: of OPEN PAIRS alone", () -> {
            CourtMatcher x = court(new long[][] {{1, 1}, {3, 9}, {8, 7}});
            x.mark(1, 0, 1);
            x.solve();
            due("7 - 1", x.round(0, 4), 6);
            x.here(0, 2, 0);
            x.solve();
            due("9 - 1", x.round(0, 4), 8);
            x.mark(1, 1, 1);
            x.solve();
            due("none", x.round(0, 4), NONE);
        });
        test("terms 3: PAYS and TOLLS rise above what an int holds", () -> {
            CourtMatcher x = stairs(4);
            rounds(x, new long[][] {{3, 3, 1, 3073, LIMIT, 4}, {3, 7, 3, 2051, LIMIT, 5}, {3, 15, 7, 7, LIMIT, 6},
                {4, 0, 0, 3840, NONE, 7}});
            prices(x, 3, 0, 3 * LIMIT, 2 * LIMIT, LIMIT, 0);
            prices(x, 3, 1, 3 * LIMIT, 3 * LIMIT, 2 * LIMIT, LIMIT);
            x = stairs(8);
            due("eight ROUNDS", x.solve(), 8);
            prices(x, 7, 0, 7 * LIMIT, 6 * LIMIT, 5 * LIMIT, 4 * LIMIT, 3 * LIMIT, 2 * LIMIT, LIMIT, 0);
            due("the greatest PAY", x.price(7, 1, 0), 7 * LIMIT);
        });
    }

    private static long tightOnes(long first, long second, long third) {
        CourtMatcher x = court(new long[][] {{first}, {second}, {third}});
        x.solve();
        return x.round(0, 5);
    }

    /** Judge 0 has both cases at this; judge 1 has these. */
    private static long firstRise(long both, long first, long second) {
        CourtMatcher x = court(new long[][] {{both, both}, {first, second}});
        x.solve();
        return x.round(0, 4);
    }

    private static void kept() {
        test("14 solve: none is kept ahead of the first", () -> {
            CourtMatcher x = court(2, 2);
            due("count(6)", x.count(6), 0);
            due("round(0, 0)", x.round(0, 0), NO);
            due("price(0, 0, 0)", x.price(0, 0, 0), NO);
        });
        test("14 solve: ROUNDS stay as they were till the next solve()", () -> {
            CourtMatcher x = court(new long[][] {{1, 2}, {5, 9}});
            x.solve();
            x.tell(1, 0, 1);
            x.here(0, 0, 0);
            x.here(1, 1, 0);
            x.mark(0, 0, 1);
            text(x, 0, "7");
            due("count(6)", x.count(6), 2);
            due("RISE", x.round(0, 4), 4);
            prices(x, 1, 1, 5, 6);
            prices(x, 1, 0, 4, 0);
            due("anew", x.solve(), 1);
            due("those behind are gone", x.round(1, 0), NO);
            due("PAYS behind are gone", x.price(1, 1, 0), NO);
            prices(x, 0, 1, 1, 0);
        });
        test("14 solve: image(), back() leave them", () -> {
            CourtMatcher x = court(new long[][] {{1, 2}, {5, 9}});
            due("image()", x.image(), 4);
            x.solve();
            x.image();
            due("by image()", x.count(6), 2);
            x.here(1, 0, 0);
            x.solve();
            due("one case", x.count(6), 1);
            x.back();
            due("by back()", x.count(6), 1);
            prices(x, 0, 1, 0, 2);
            due("solve() behind back()", x.solve(), 2);
        });
        test("14 solve: it changes nothing else", () -> {
            CourtMatcher x = rich();
            long total = x.total();
            due("again", x.solve() > 0 ? 1 : 0, 1);
            due("total", x.total(), total);
            due("bytes", x.count(7), 3);
            due("image", x.back() > 0 ? 1 : 0, 1);
        });
    }

    private static void round() {
        test("15 round: the first and the last, and what is outside, NO", () -> {
            CourtMatcher x = stairs(8);
            x.solve();
            for (int what = 0; what < 6; what++) {
                due("the first", x.round(0, what) == NO ? 1 : 0, 0);
                due("the last", x.round(7, what) == NO ? 1 : 0, 0);
                for (int i : new int[] {-1, 8, 9, 64, LOW, HIGH}) {
                    due("round(" + i + ", " + what + ")", x.round(i, what), NO);
                }
            }
        });
        test("15 round: what -1 and 6, NO", () -> {
            for (int what : NO_FACT) {
                refused("round(0, " + what + ")", RICH, x -> x.round(0, what), NO);
                refused("round(1, " + what + ")", RICH, x -> x.round(1, what), NO);
                refused("where none is kept", STUCK, x -> x.round(0, what), NO);
            }
        });
        test("15 round: no such ROUND, NO, and it changes nothing", () -> {
            for (int i : new int[] {-1, 64, 100, LOW, HIGH}) {
                refused("round(" + i + ", 4)", RICH, x -> x.round(i, 4), NO);
            }
            refused("round(0, 0)", STUCK, x -> x.round(0, 0), NO);
        });
        test("15 round: LINES, judges from bit 0 to 7, cases from bit 8 to 15", () -> {
            CourtMatcher x = new CourtMatcher();
            x.here(0, 7, 1);
            x.here(1, 0, 1);
            x.here(1, 7, 1);
            rounds(x, new long[][] {{1, 129, 128, 128, NONE, 2}});
            x.here(0, 0, 1);
            x.mark(0, 0, 1);
            x.mark(7, 7, 1);
            rounds(x, new long[][] {{2, 0, 0, 256 + 32768, NONE, 2}});
            x.here(1, 3, 1);
            x.mark(7, 3, 1);
            rounds(x, new long[][] {{2, 136, 1, 257, NONE, 3}});
        });
        test("15 round: cases that are OUT are in no LINES", () -> {
            CourtMatcher x = court(2, 2);
            x.here(1, 0, 0);
            rounds(x, new long[][] {{1, 0, 0, 512, NONE, 2}});
        });
    }

    private static void price() {
        test("16 price: 0 and 7 of either side", () -> {
            CourtMatcher x = court(8, 8);
            for (int matter = 0; matter < 8; matter++) {
                for (int judge = 0; judge < 8; judge++) {
                    x.tell(judge, matter, 10 + matter);
                }
            }
            x.solve();
            prices(x, 0, 0);
            prices(x, 0, 1, 10, 11, 12, 13, 14, 15, 16, 17);
        });
        test("16 price: no such judge or case, NO", () -> {
            for (int who : NO_SEAT) {
                refused("price(0, 0, " + who + ")", RICH, x -> x.price(0, 0, who), NO);
                refused("price(0, 1, " + who + ")", RICH, x -> x.price(0, 1, who), NO);
            }
        });
        test("16 price: no such side, NO", () -> {
            for (int side : NO_SIDE) {
                refused("price(0, " + side + ", 0)", RICH, x -> x.price(0, side, 0), NO);
            }
        });
        test("16 price: no such ROUND, NO", () -> {
            CourtMatcher x = stairs(8);
            x.solve();
            due("the last", x.price(7, 0, 6), LIMIT);
            for (int i : new int[] {-1, 8, 64, LOW, HIGH}) {
                due("TOLL in " + i, x.price(i, 0, 0), NO);
                due("PAY in " + i, x.price(i, 1, 0), NO);
            }
            for (int i : new int[] {-1, 64, LOW, HIGH}) {
                refused("price(" + i + ", 0, 0)", RICH, y -> y.price(i, 0, 0), NO);
                refused("price(" + i + ", 1, 7)", RICH, y -> y.price(i, 1, 7), NO);
            }
            refused("where none is kept", STUCK, y -> y.price(0, 1, 0), NO);
        });
        test("16 price: of a case that was OUT 0, though it is IN now; of one that was IN its PAY", () -> {
            CourtMatcher x = court(new long[][] {{3, 4}});
            x.here(1, 1, 0);
            x.solve();
            x.here(1, 1, 1);
            x.here(1, 0, 0);
            prices(x, 0, 1, 3, 0);
        });
    }

    public static void main(String[] args) {
        firstPrices();
        marks();
        kept();
        round();
        price();
        Check.end();
    }
}
