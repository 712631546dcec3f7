/** Terms 3 and 4, promises 28 to 37: each bound from inside and from outside, each refusal, and that it changes nothing. */
public final class BoundsOfHostTest extends Scene {
    private static final int[] NO_SORT = {-2, 3, 4, LOW, HIGH};

    /** As many FULL ones as 24; the first is 0, 1, 2 at 0. */
    private static CourtMatcher fourByThree() {
        CourtMatcher x = court(4, 3);
        x.tell(3, 0, 50);
        return x;
    }

    private static void tells() {
        test("28 tells: no such SHEET, BAD, ahead of -11", () -> {
            for (int sheet : NO_SHEET) {
                for (int what = 0; what < 3; what++) {
                    int of = what;
                    refused("tells(" + sheet + ", " + what + ")", RICH, x -> x.tells(sheet, of), BAD);
                }
                due("of a new object", new CourtMatcher().tells(sheet, 0), BAD);
            }
        });
        test("28 tells: what -1 and 3, BAD, ahead of -11, of STATE", () -> {
            for (int what : new int[] {-1, 3, 4, LOW, HIGH}) {
                refused("one that tells", RICH, x -> x.tells(1, what), BAD);
                refused("missing", RICH, x -> x.tells(3, what), BAD);
                refused("one that tells none", RICH, x -> x.tells(0, what), BAD);
            }
        });
        test("28 tells: missing, -11, ahead of STATE", () -> {
            for (int what = 0; what < 3; what++) {
                int of = what;
                refused("tells(3, " + what + ")", RICH, x -> x.tells(3, of), NOTHING);
                refused("where there is no FULL one", STUCK, x -> x.tells(3, of), NOTHING);
                due("no case IN", new CourtMatcher().tells(0, what), NOTHING);
            }
        });
        test("28 tells: SHEETS 0 and 3, of each sort", () -> {
            CourtMatcher x = fourByThree();
            for (int sheet = 0; sheet < 4; sheet++) {
                for (int sort = 0; sort < 3; sort++) {
                    row(x, sheet, sort, 3, 1, 2);
                    due("TOTAL", x.tells(sheet, 0), 50);
                    due("in some BEST one", x.tells(sheet, 2), 2);
                }
            }
        });
        test("28 tells: the empty one, of a SHEET of 0", () -> {
            CourtMatcher x = court(8, 0);
            x.sheet(0, 1, 0);
            for (int what = 0; what < 3; what++) {
                due("tells(0, " + what + ")", x.tells(0, what), 0);
            }
            x.sheet(0, 1, 1);
            due("one too many", x.tells(0, 0), STATE);
            x.here(1, 0, 1);
            due("one", x.tells(0, 0), 0);
            x.sheet(0, 1, 0);
            due("one too few", x.tells(0, 0), STATE);
        });
        test("terms 3, a SHEET tells: just as many as cases are IN", () -> {
            CourtMatcher x = fourByThree();
            row(x, 0, 0, 0, 1);
            due("two", x.tells(0, 0), STATE);
            row(x, 0, 0, 0, 1, 2);
            due("three", x.tells(0, 0), 0);
            row(x, 0, 0, 0, 1, 2, 3);
            due("four", x.tells(0, 0), STATE);
            x.sheet(0, 0, 40);
            due("forty", x.tells(0, 0), STATE);
        });
        test("terms 3, a SHEET tells: judges of the cases IN, by number", () -> {
            CourtMatcher x = new CourtMatcher();
            x.here(0, 0, 1);
            x.here(0, 7, 1);
            x.here(1, 2, 1);
            x.here(1, 7, 1);
            x.tell(7, 2, 10);
            x.tell(0, 7, 5);
            x.tell(0, 2, 100);
            x.tell(7, 7, 200);
            row(x, 0, 0, 7, 0);
            due("TOTAL", x.tells(0, 0), 15);
            due("the first", x.tells(0, 1), 0);
            row(x, 0, 0, 0, 7);
            due("TOTAL", x.tells(0, 0), 300);
            due("the second", x.tells(0, 1), 1);
            due("in none", x.tells(0, 2), 0);
        });
        test("terms 3, a SHEET tells: judges -1 and 8, and what would wrap around, tell none", () -> {
            CourtMatcher x = court(8, 2);
            for (long judge : new long[] {0, 1, 6, 7}) {
                row(x, 0, 0, judge, judge == 0 ? 1 : 0);
                due("judge " + judge, x.tells(0, 0), 0);
            }
            long[] none = {-1, 8, 9, 256, 1L << 32, (1L << 32) + 1, -8, Long.MIN_VALUE, Long.MAX_VALUE, NO};
            for (long judge : none) {
                row(x, 0, 0, judge, 3);
                due("first " + judge, x.tells(0, 0), STATE);
                row(x, 0, 0, 3, judge);
                due("last " + judge, x.tells(0, 0), STATE);
            }
            row(x, 0, 1, (1L << 32) + 1, 0);
            due("as an int it is 1", x.tells(0, 0), 0);
            row(x, 0, 2, 257, 256);
            due("as bytes they are 1 and 0", x.tells(0, 0), 0);
        });
        test("terms 3, a SHEET tells: a PAIR that isn't OPEN, a judge twice, tell none", () -> {
            CourtMatcher x = fourByThree();
            long[][] twice = {{1, 1, 2}, {1, 2, 1}, {2, 1, 1}, {3, 3, 3}};
            for (long[] judges : twice) {
                row(x, 0, 0, judges);
                due("twice", x.tells(0, 0), STATE);
            }
            row(x, 0, 0, 0, 1, 4);
            due("OUT", x.tells(0, 0), STATE);
            row(x, 0, 0, 0, 1, 2);
            x.mark(2, 2, 1);
            due("BARRED", x.tells(0, 0), STATE);
            x.mark(2, 2, 2);
            due("FORCED", x.tells(0, 0), 0);
            row(x, 0, 0, 1, 2, 0);
            due("beside", x.tells(0, 0), STATE);
        });
        test("28 tells: it tells none, STATE, whatever is asked", () -> {
            for (int what = 0; what < 3; what++) {
                int of = what;
                refused("tells(0, " + what + ")", RICH, x -> x.tells(0, of), STATE);
                refused("tells(2, " + what + ")", RICH, x -> x.tells(2, of), STATE);
                refused("where there is no FULL one", STUCK, x -> x.tells(0, of), STATE);
            }
        });
        test("28 tells: which of NEXT ONES, 0 to 11, then NONE", () -> {
            CourtMatcher x = court(8, 2);
            for (int i = 0; i < 20; i++) {
                int first = i / 7;
                int second = i % 7 < first ? i % 7 : i % 7 + 1;
                row(x, 0, 2, first, second);
                due(first + " and " + second, x.tells(0, 1), i < 12 ? i : NONE);
                due("TOTAL", x.tells(0, 0), 0);
                due("in some", x.tells(0, 2), 2);
            }
        });
        test("28 tells: how many of its PAIRS are in some BEST one, in one alone, too", () -> {
            CourtMatcher x = court(new long[][] {{1, 5}, {5, 1}, {9, 1}});
            due("BEST ones", x.many(), 2);
            long[][] rows = {{0, 1, 2}, {0, 2, 2}, {1, 2, 1}, {2, 1, 1}, {1, 0, 0}, {2, 0, 0}};
            for (long[] w : rows) {
                row(x, 0, 0, w[0], w[1]);
                due("of " + w[0] + " and " + w[1], x.tells(0, 2), w[2]);
            }
        });
        test("28 tells: it changes nothing", () -> {
            for (int what = 0; what < 3; what++) {
                int of = what;
                leaves("tells(1, " + what + ")", RICH, x -> x.tells(1, of));
            }
        });
    }

    private static void film() {
        test("29 film: no such SHEET, BAD, ahead of STATE", () -> {
            for (int sheet : NO_SHEET) {
                refused("film(" + sheet + ", 0)", RICH, x -> x.film(sheet, 0), BAD);
                refused("film(" + sheet + ", -1)", RICH, x -> x.film(sheet, -1), BAD);
                refused("where there is none", STUCK, x -> x.film(sheet, 0), BAD);
            }
        });
        test("29 film: there is none such, STATE, and the SHEET stays", () -> {
            for (int i : new int[] {-1, 40320, LOW, HIGH}) {
                for (int sheet = 0; sheet < 4; sheet++) {
                    int to = sheet;
                    refused("film(" + sheet + ", " + i + ")", RICH, x -> x.film(to, i), STATE);
                }
            }
            refused("where there is none", STUCK, x -> x.film(1, 0), STATE);
            refused("where there is none, missing", STUCK, x -> x.film(3, 0), STATE);
        });
        test("29 film: the first and the last, and the one behind it", () -> {
            CourtMatcher x = court(8, 8);
            due("film(0, 0)", x.film(0, 0), 8);
            due("film(3, 40319)", x.film(3, 40319), 8);
            for (int i = 0; i < 8; i++) {
                due("the first", x.item(0, i), i);
                due("the last", x.item(3, i), 7 - i);
            }
            due("no ninth", x.item(3, 8), NO);
            due("film(0, 40320)", x.film(0, 40320), STATE);
            due("stays", x.item(0, 7), 7);
        });
        test("29 film: no case is IN, a SHEET of 0 that isn't missing", () -> {
            CourtMatcher x = court(8, 0);
            row(x, 2, 2, 5, 6);
            due("over another one", x.film(2, 0), 0);
            due("item", x.item(2, 0), NO);
            due("not missing", x.put(2, 0, 1), OUTSIDE);
            due("over a missing one", x.film(3, 0), 0);
            due("not missing", x.put(3, 0, 1), OUTSIDE);
            due("no second", x.film(3, 1), STATE);
        });
        test("29 film: longs, whatever it was", () -> {
            CourtMatcher x = court(2, 2);
            for (int sort = -1; sort < 3; sort++) {
                x.sheet(1, sort, 40);
                due("film", x.film(1, 1), 2);
                due("item 0", x.item(1, 0), 1);
                due("item 1", x.item(1, 1), 0);
                due("no third", x.item(1, 2), NO);
                x.put(1, 0, 1L << 40);
                due("a long", x.item(1, 0), 1L << 40);
            }
        });
        test("29 film: only cases IN, by number", () -> {
            CourtMatcher x = new CourtMatcher();
            x.here(0, 3, 1);
            x.here(0, 4, 1);
            x.here(1, 0, 1);
            x.here(1, 7, 1);
            x.mark(3, 0, 1);
            due("film", x.film(0, 0), 2);
            due("case 0", x.item(0, 0), 4);
            due("case 7", x.item(0, 1), 3);
        });
    }

    private static void image() {
        test("30 image: none of 64, all of 64 are OPEN", () -> {
            due("none", new CourtMatcher().image(), 0);
            due("all", court(8, 8).image(), 64);
            CourtMatcher x = court(8, 8);
            x.mark(7, 7, 1);
            due("all but one", x.image(), 63);
        });
        test("31 back: there is none, STATE", () -> {
            refused("back()", STUCK, CourtMatcher::back, STATE);
            refused("of a new object", NEW, CourtMatcher::back, STATE);
        });
        test("31 back: AN IMAGE of a new object", () -> {
            CourtMatcher x = new CourtMatcher();
            x.image();
            for (int i = 0; i < 8; i++) {
                x.here(0, i, 1);
                x.here(1, i, 1);
                x.mark(i, i, 2);
                x.tell(i, 0, 5);
                x.trait(0, i, 0, 9);
                x.trait(1, i, 2, -9);
            }
            text(x, 3, "9");
            due("back()", x.back(), 0);
            for (int what = 0; what < 8; what++) {
                due("count(" + what + ")", x.count(what), 0);
            }
            for (int i = 0; i < 8; i++) {
                due("TRAIT", x.trait(0, i, 0, 0), 0);
                due("TRAIT", x.trait(1, i, 2, 0), 0);
            }
            due("RULE 3", x.empty(3), 0);
        });
        test("terms 3, AN IMAGE keeps who is IN, TRAITS, OWN burdens, MARKS, RULES", () -> {
            CourtMatcher x = rich();
            due("OPEN PAIRS", x.back(), 14);
            int[] counts = {5, 3, 14, 0, 1, 1, x.count(6), 3};
            for (int what = 0; what < 8; what++) {
                due("count(" + what + ")", x.count(what), counts[what]);
            }
            due("OWN", x.burden(3, 2), 41);
            due("BARRED", x.mark(1, 1, 1), 1);
            due("RULE 1", x.value(1, 0, 0), 5);
            due("RULE 0", x.empty(0), 0);
            due("RULE 2", x.empty(2), 0);
            due("TRAIT", x.trait(0, 4, 2, 0), 77);
            due("TRAIT", x.trait(0, 7, 2, 0), 0);
        });
        test("terms 3, AN IMAGE keeps neither SHEETS nor THE TAPE nor ROUNDS", () -> {
            CourtMatcher x = rich();
            int rounds = x.count(6);
            x.back();
            due("ROUNDS", x.count(6), rounds);
            due("THE TAPE", x.count(7), 3);
            due("a SHEET", x.item(0, 4), 1L << 40);
            due("a missing one", x.put(3, 0, 0), NOTHING);
        });
        test("31 back: AN IMAGE stays, as often as it is laid back", () -> {
            CourtMatcher x = court(2, 2);
            x.image();
            for (int i = 0; i < 3; i++) {
                x.here(0, 0, 0);
                due("OUT", x.count(2), 2);
                due("back()", x.back(), 4);
            }
            due("back() at once", x.back(), 4);
        });
        test("30 image: a later one takes the place of the one ahead", () -> {
            CourtMatcher x = court(2, 2);
            due("the first", x.image(), 4);
            x.here(0, 0, 0);
            due("the second", x.image(), 2);
            x.here(0, 0, 1);
            due("back()", x.back(), 2);
        });
        test("31 back: what is told behind image() doesn't come into it", () -> {
            CourtMatcher x = court(1, 1);
            text(x, 0, "1+2");
            x.image();
            text(x, 0, "4");
            due("then", x.total(), 4);
            x.back();
            due("back", x.total(), 3);
            x.empty(0);
            x.back();
            due("back", x.total(), 3);
            x.tell(0, 0, 8);
            x.back();
            due("back", x.total(), 3);
        });
        test("31 back: PARTS, VALUES, PLACES are those of the RULE laid back", () -> {
            CourtMatcher x = new CourtMatcher();
            text(x, 0, "div(a,b)");
            x.image();
            text(x, 0, "  mod(x,y)+1");
            due("PLACE", x.why(0, 0, 1), 2);
            x.back();
            due("PARTS", x.told(0, 0), 3);
            due("PLACE", x.why(0, 0, 1), 0);
            x.trait(0, 0, 0, 7);
            x.trait(0, 0, 1, 2);
            due("VALUE", x.value(0, 0, 0), 3);
        });
        test("31 back, 37 lay: what is asked follows, whatever was asked ahead", () -> {
            follows("back()", RICH, CourtMatcher::back);
            follows("lay", RICH, x -> x.lay(1, 1, 1, 0, 3));
        });
        test("31 back: WEIGHTS and RINGS are those of the RULES laid back", () -> {
            CourtMatcher x = new CourtMatcher();
            text(x, 0, "q");
            x.image();
            x.empty(0);
            due("no RING", text(x, 1, "p"), 1);
            x.back();
            due("q is EMPTY", x.told(1, 0), 0);
            due("RING", text(x, 1, "p"), RING);
            due("WEIGHT", x.told(0, 1), 1);
        });
        test("30 image: it changes nothing but AN IMAGE", () -> {
            CourtMatcher x = rich();
            int open = x.count(2);
            long total = x.total();
            due("image()", x.image(), open);
            due("total", x.total(), total);
            due("bytes", x.count(7), 3);
            due("back()", x.back(), open);
            due("total", x.total(), total);
        });
    }

    private static void count() {
        test("32 count: what -1 and 8, BAD", () -> {
            for (int what : new int[] {-1, 8, 9, LOW, HIGH}) {
                refused("count(" + what + ")", RICH, x -> x.count(what), BAD);
                refused("of a new object", NEW, x -> x.count(what), BAD);
            }
        });
        test("32 count: none of all", () -> {
            for (int what = 0; what < 8; what++) {
                due("count(" + what + ")", new CourtMatcher().count(what), 0);
            }
        });
        test("32 count: all of all", () -> {
            CourtMatcher x = court(8, 8);
            due("judges", x.count(0), 8);
            due("cases", x.count(1), 8);
            due("OPEN", x.count(2), 64);
            for (int i = 0; i < 64; i++) {
                x.tell(i / 8, i % 8, 0);
                x.mark(i / 8, i % 8, 1);
            }
            due("OPEN", x.count(2), 0);
            due("BARRED", x.count(4), 64);
            due("OWN", x.count(5), 64);
            for (int i = 0; i < 8; i++) {
                x.mark(i, i, 2);
            }
            due("OPEN", x.count(2), 8);
            due("FORCED", x.count(3), 8);
            due("BARRED", x.count(4), 56);
            for (int i = 0; i < 61; i++) {
                x.feed(i);
            }
            due("bytes", x.count(7), 60);
        });
        test("32 count: FORCED, BARRED, OWN of PAIRS that are OUT, too", () -> {
            CourtMatcher x = new CourtMatcher();
            x.mark(7, 7, 2);
            x.mark(0, 0, 1);
            x.tell(7, 0, 3);
            due("FORCED", x.count(3), 1);
            due("BARRED", x.count(4), 1);
            due("OWN", x.count(5), 1);
            due("OPEN", x.count(2), 0);
        });
        test("32 count: OWN burdens that lay() told, that NONE took away", () -> {
            CourtMatcher x = new CourtMatcher();
            x.sheet(0, 0, 8);
            x.lay(0, 7, 0, 0, 8);
            due("eight of 0", x.count(5), 8);
            x.tell(7, 7, NONE);
            due("seven", x.count(5), 7);
        });
    }

    private static void sheet() {
        test("terms 4, 33 sheet: SHEETS 0 to 3 are missing at first", () -> {
            CourtMatcher x = new CourtMatcher();
            for (int sheet = 0; sheet < 4; sheet++) {
                due("put", x.put(sheet, 0, 1), NOTHING);
                due("item", x.item(sheet, 0), NO);
            }
        });
        test("33 sheet: 0 and 40 are the least and the greatest n, of each sort", () -> {
            for (int sort = 0; sort < 3; sort++) {
                CourtMatcher x = new CourtMatcher();
                due("0", x.sheet(0, sort, 0), 1);
                due("not missing", x.put(0, 0, 1), OUTSIDE);
                due("40", x.sheet(3, sort, 40), 1);
                due("the 40th", x.put(3, 39, 1), 1);
                due("no 41st", x.put(3, 40, 1), OUTSIDE);
            }
        });
        test("33 sheet: 41, BAD", () -> {
            for (int n : new int[] {41, 42, 256, HIGH}) {
                for (int sort = 0; sort < 3; sort++) {
                    int of = sort;
                    refused("sheet(0, " + sort + ", " + n + ")", RICH, x -> x.sheet(0, of, n), BAD);
                }
            }
        });
        test("33 sheet: -1, -14", () -> {
            for (int n : new int[] {-1, -2, -41, LOW}) {
                for (int sort = 0; sort < 3; sort++) {
                    int of = sort;
                    refused("sheet(1, " + sort + ", " + n + ")", RICH, x -> x.sheet(1, of, n), NEGATIVE);
                    refused("sheet(3, " + sort + ", " + n + ")", RICH, x -> x.sheet(3, of, n), NEGATIVE);
                }
            }
        });
        test("33 sheet: no such SHEET, BAD, ahead of -14", () -> {
            for (int sheet : NO_SHEET) {
                for (int sort = -1; sort < 3; sort++) {
                    int of = sort;
                    refused("sheet(" + sheet + ", " + sort + ", 3)", RICH, x -> x.sheet(sheet, of, 3), BAD);
                    refused("sheet(" + sheet + ", " + sort + ", -1)", RICH, x -> x.sheet(sheet, of, -1), BAD);
                }
            }
        });
        test("33 sheet: sorts -2 and 3, BAD, ahead of -14", () -> {
            for (int sort : NO_SORT) {
                refused("sheet(0, " + sort + ", 3)", RICH, x -> x.sheet(0, sort, 3), BAD);
                refused("sheet(0, " + sort + ", -1)", RICH, x -> x.sheet(0, sort, -1), BAD);
                refused("sheet(3, " + sort + ", 0)", RICH, x -> x.sheet(3, sort, 0), BAD);
            }
        });
        test("33 sheet: missing, and n does not matter", () -> {
            for (int n : new int[] {-1, 0, 3, 40, 41, LOW, HIGH}) {
                CourtMatcher x = rich();
                due("sheet(0, -1, " + n + ")", x.sheet(0, -1, n), 1);
                due("missing", x.put(0, 0, 1), NOTHING);
                due("item", x.item(0, 0), NO);
                due("one that was missing", x.sheet(3, -1, n), 1);
                due("missing", x.put(3, 0, 1), NOTHING);
            }
        });
        test("33 sheet: all 0, also where other numbers were", () -> {
            CourtMatcher x = new CourtMatcher();
            for (int sort = 0; sort < 3; sort++) {
                x.sheet(0, sort, 40);
                for (int i = 0; i < 40; i++) {
                    due("item", x.item(0, i), 0);
                    x.put(0, i, 9);
                }
            }
            x.sheet(0, 0, 3);
            due("one of 3", x.item(0, 2), 0);
            due("no fourth", x.item(0, 3), NO);
            x.sheet(0, 0, 4);
            due("the fourth", x.item(0, 3), 0);
        });
    }

    private static void put() {
        test("34 put: longs as they are", () -> {
            CourtMatcher x = new CourtMatcher();
            x.sheet(0, 0, 1);
            for (long v : new long[] {0, -1, Long.MIN_VALUE, Long.MAX_VALUE, 1L << 32, NO}) {
                due("put", x.put(0, 0, v), 1);
                due("item", x.item(0, 0), v);
            }
        });
        test("34 put: of ints the lowest 32 bits", () -> {
            long[][] rows = {{HIGH, HIGH}, {HIGH + 1L, LOW}, {LOW, LOW}, {LOW - 1L, HIGH}, {1L << 32, 0}, {(1L << 32) - 1, -1},
                {(1L << 32) + 5, 5}, {-1, -1}, {Long.MIN_VALUE, 0}, {Long.MAX_VALUE, -1}, {128, 128}};
            CourtMatcher x = new CourtMatcher();
            x.sheet(0, 1, 1);
            for (long[] row : rows) {
                due("put", x.put(0, 0, row[0]), 1);
                due("item of " + row[0], x.item(0, 0), row[1]);
            }
        });
        test("34 put: of bytes the lowest 8 bits", () -> {
            long[][] rows = {{127, 127}, {128, -128}, {-128, -128}, {-129, 127}, {255, -1}, {256, 0}, {257, 1}, {-1, -1},
                {-256, 0}, {Long.MIN_VALUE, 0}, {Long.MAX_VALUE, -1}, {1L << 32, 0}, {383, 127}, {384, -128}};
            CourtMatcher x = new CourtMatcher();
            x.sheet(0, 2, 1);
            for (long[] row : rows) {
                due("put", x.put(0, 0, row[0]), 1);
                due("item of " + row[0], x.item(0, 0), row[1]);
            }
        });
        test("34 put: no such SHEET, BAD, ahead of -12", () -> {
            for (int sheet : NO_SHEET) {
                refused("put(" + sheet + ", 0, 1)", RICH, x -> x.put(sheet, 0, 1), BAD);
                refused("put(" + sheet + ", -1, 1)", RICH, x -> x.put(sheet, -1, 1), BAD);
            }
        });
        test("34 put: missing, -11, ahead of -12", () -> {
            for (int i : new int[] {-1, 0, 40, LOW, HIGH}) {
                refused("put(3, " + i + ", 1)", RICH, x -> x.put(3, i, 1), NOTHING);
            }
        });
        test("34 put: items -1 and n, -12", () -> {
            for (int i : new int[] {-1, 5, 6, 40, LOW, HIGH}) {
                refused("put(0, " + i + ", 1)", RICH, x -> x.put(0, i, 1), OUTSIDE);
            }
            for (int i : new int[] {-1, 2, 5, 256, LOW, HIGH}) {
                refused("put(2, " + i + ", 1)", RICH, x -> x.put(2, i, 1), OUTSIDE);
            }
        });
        test("34 put: the first and the last item, and those beside stay", () -> {
            CourtMatcher x = rich();
            due("the first", x.put(0, 0, 61), 1);
            due("the last", x.put(0, 4, 64), 1);
            long[] want = {61, 0, 2, 4, 64};
            for (int i = 0; i < 5; i++) {
                due("item " + i, x.item(0, i), want[i]);
            }
            due("of another SHEET", x.item(1, 0), 1);
        });
    }

    private static void item() {
        test("35 item: no such SHEET, NO", () -> {
            for (int sheet : NO_SHEET) {
                refused("item(" + sheet + ", 0)", RICH, x -> x.item(sheet, 0), NO);
            }
        });
        test("35 item: missing, NO", () -> {
            for (int i : new int[] {-1, 0, 39, LOW, HIGH}) {
                refused("item(3, " + i + ")", RICH, x -> x.item(3, i), NO);
            }
        });
        test("35 item: -1 and n, NO", () -> {
            for (int i : new int[] {-1, 5, 40, LOW, HIGH}) {
                refused("item(0, " + i + ")", RICH, x -> x.item(0, i), NO);
            }
            due("the first", rich().item(0, 0), 1);
            due("the last", rich().item(0, 4), 1L << 40);
            due("of one of 0", zeros().item(0, 0), NO);
        });
    }

    private static CourtMatcher zeros() {
        CourtMatcher x = new CourtMatcher();
        x.sheet(0, 0, 0);
        x.sheet(1, 0, 3);
        return x;
    }

    private static CourtMatcher likes() {
        CourtMatcher x = court(1, 1);
        row(x, 0, 0, 1, 2, 3, 4, 5);
        row(x, 1, 0, 6, 7, 8);
        row(x, 2, 1, 9, 9, 9);
        return x;
    }

    private static final Maker LIKES = BoundsOfHostTest::likes;

    private static void items(CourtMatcher x, int sheet, long... want) {
        for (int i = 0; i < want.length; i++) {
            due("item " + i, x.item(sheet, i), want[i]);
        }
        due("no more", x.item(sheet, want.length), NO);
    }

    private static void copy() {
        test("36 copy: all, the first, the last, none", () -> {
            CourtMatcher x = likes();
            due("all of the shorter", x.copy(0, 2, 1, 0, 3), 3);
            items(x, 1, 3, 4, 5);
            due("the first", x.copy(0, 0, 1, 2, 1), 1);
            items(x, 1, 3, 4, 1);
            due("none", x.copy(0, 0, 1, 0, 0), 0);
            due("none, at both ends", x.copy(0, 5, 1, 3, 0), 0);
            items(x, 1, 3, 4, 1);
            items(x, 0, 1, 2, 3, 4, 5);
        });
        test("36 copy: each sort keeps its own", () -> {
            for (int sort = 0; sort < 3; sort++) {
                CourtMatcher x = new CourtMatcher();
                row(x, 0, sort, -1, -128, 127);
                x.sheet(3, sort, 3);
                due("copy", x.copy(0, 0, 3, 0, 3), 3);
                items(x, 3, -1, -128, 127);
            }
        });
        test("36 copy: onto itself, as they were", () -> {
            CourtMatcher x = likes();
            due("forth", x.copy(0, 0, 0, 1, 4), 4);
            items(x, 0, 1, 1, 2, 3, 4);
            x = likes();
            due("back", x.copy(0, 1, 0, 0, 4), 4);
            items(x, 0, 2, 3, 4, 5, 5);
            x = likes();
            due("all", x.copy(0, 0, 0, 0, 5), 5);
            items(x, 0, 1, 2, 3, 4, 5);
        });
        test("36 copy: no such SHEET, BAD, ahead of -11, -13, -12", () -> {
            for (int sheet : NO_SHEET) {
                refused("copy(" + sheet + ", 0, 0, 0, 1)", LIKES, x -> x.copy(sheet, 0, 0, 0, 1), BAD);
                refused("copy(0, 0, " + sheet + ", 0, 1)", LIKES, x -> x.copy(0, 0, sheet, 0, 1), BAD);
                refused("missing, BAD", LIKES, x -> x.copy(3, 0, sheet, 0, 1), BAD);
                refused("BAD, missing", LIKES, x -> x.copy(sheet, 0, 3, 0, 1), BAD);
                refused("BAD, outside", LIKES, x -> x.copy(sheet, -1, 0, 9, -1), BAD);
                refused("outside, BAD", LIKES, x -> x.copy(0, -1, sheet, 9, -1), BAD);
            }
        });
        test("36 copy: missing, -11, ahead of -12", () -> {
            refused("from", LIKES, x -> x.copy(3, 0, 0, 0, 1), NOTHING);
            refused("to", LIKES, x -> x.copy(0, 0, 3, 0, 1), NOTHING);
            refused("both", LIKES, x -> x.copy(3, 0, 3, 0, 0), NOTHING);
            refused("none of from", LIKES, x -> x.copy(3, 0, 0, 0, 0), NOTHING);
            refused("from, outside", LIKES, x -> x.copy(3, -1, 0, 0, 1), NOTHING);
            refused("to, outside", LIKES, x -> x.copy(0, 0, 3, 0, -1), NOTHING);
        });
        test("36 copy: of unlike sorts, -13, ahead of -12", () -> {
            refused("longs, ints", LIKES, x -> x.copy(0, 0, 2, 0, 1), UNLIKE);
            refused("ints, longs", LIKES, x -> x.copy(2, 0, 0, 0, 1), UNLIKE);
            refused("none of them", LIKES, x -> x.copy(0, 0, 2, 0, 0), UNLIKE);
            refused("outside", LIKES, x -> x.copy(0, -1, 2, 0, 1), UNLIKE);
            refused("below 0", LIKES, x -> x.copy(0, 0, 2, 0, -1), UNLIKE);
            refused("ints, bytes", RICH, x -> x.copy(1, 0, 2, 0, 1), UNLIKE);
            refused("bytes, longs", RICH, x -> x.copy(2, 0, 0, 0, 1), UNLIKE);
        });
        test("36 copy: n below 0, -12", () -> {
            for (int n : new int[] {-1, -2, LOW}) {
                refused("copy(0, 0, 1, 0, " + n + ")", LIKES, x -> x.copy(0, 0, 1, 0, n), OUTSIDE);
                refused("copy(0, 5, 1, 3, " + n + ")", LIKES, x -> x.copy(0, 5, 1, 3, n), OUTSIDE);
            }
        });
        test("36 copy: from a place outside, -12", () -> {
            int[][] outside = {{-1, 1}, {5, 1}, {4, 2}, {3, 3}, {6, 0}, {-1, 0}, {LOW, 1}, {HIGH, 1}, {HIGH, 0}, {1, HIGH},
                {HIGH, HIGH}, {LOW, HIGH}, {LOW, 0}};
            for (int[] w : outside) {
                refused("copy(0, " + w[0] + ", 1, 0, " + w[1] + ")", LIKES, x -> x.copy(0, w[0], 1, 0, w[1]), OUTSIDE);
            }
            due("just inside", likes().copy(0, 4, 1, 0, 1), 1);
            due("just inside", likes().copy(0, 3, 1, 0, 2), 2);
        });
        test("36 copy: to a place outside, -12", () -> {
            int[][] outside = {{-1, 1}, {3, 1}, {2, 2}, {1, 3}, {0, 4}, {4, 0}, {-1, 0}, {LOW, 1}, {HIGH, 1}, {HIGH, 0},
                {LOW, 0}, {HIGH - 1, 2}};
            for (int[] w : outside) {
                refused("copy(0, 0, 1, " + w[0] + ", " + w[1] + ")", LIKES, x -> x.copy(0, 0, 1, w[0], w[1]), OUTSIDE);
            }
            due("just inside", likes().copy(0, 0, 1, 2, 1), 1);
            due("just inside", likes().copy(0, 0, 1, 1, 2), 2);
            due("just inside", likes().copy(0, 0, 1, 0, 3), 3);
        });
        test("36 copy: of a SHEET of 0 there is nothing but none", () -> {
            CourtMatcher x = zeros();
            due("none", x.copy(0, 0, 1, 0, 0), 0);
            due("none", x.copy(1, 3, 0, 0, 0), 0);
            due("one", x.copy(0, 0, 1, 0, 1), OUTSIDE);
            due("one", x.copy(1, 0, 0, 0, 1), OUTSIDE);
        });
    }

    private static void lay() {
        test("37 lay: 1 and 8 are the least and the greatest n", () -> {
            CourtMatcher x = new CourtMatcher();
            row(x, 0, 0, 11, 12, 13, 14, 15, 16, 17, 18);
            due("8", x.lay(0, 7, 0, 0, 8), 8);
            due("1", x.lay(0, 0, 0, 7, 1), 1);
            for (int matter = 0; matter < 8; matter++) {
                due("of judge 7", x.burden(7, matter), 11 + matter);
                due("of judge 0", x.burden(0, matter), matter == 0 ? 18 : 0);
            }
            due("OWN ones", x.count(5), 9);
        });
        test("37 lay: 0 and 9, BAD", () -> {
            for (int n : new int[] {-1, 0, 9, 10, LOW, HIGH}) {
                refused("lay(0, 0, 0, 0, " + n + ")", RICH, x -> x.lay(0, 0, 0, 0, n), BAD);
                refused("missing", RICH, x -> x.lay(3, 0, 0, 0, n), BAD);
                refused("another sort", RICH, x -> x.lay(0, 0, 1, 0, n), BAD);
                refused("outside", RICH, x -> x.lay(0, 0, 0, -1, n), BAD);
            }
        });
        test("37 lay: no such SHEET, BAD", () -> {
            for (int sheet : NO_SHEET) {
                refused("lay(" + sheet + ", 0, 0, 0, 1)", RICH, x -> x.lay(sheet, 0, 0, 0, 1), BAD);
                refused("outside", RICH, x -> x.lay(sheet, 0, 0, -1, 1), BAD);
            }
        });
        test("37 lay: no such judge, BAD, ahead of -13, -11, -12", () -> {
            for (int judge : NO_SEAT) {
                refused("lay(0, " + judge + ", 0, 0, 1)", RICH, x -> x.lay(0, judge, 0, 0, 1), BAD);
                refused("another sort", RICH, x -> x.lay(0, judge, 1, 0, 1), BAD);
                refused("missing", RICH, x -> x.lay(3, judge, 0, 0, 1), BAD);
                refused("outside", RICH, x -> x.lay(0, judge, 0, 5, 1), BAD);
            }
        });
        test("37 lay: sorts -1 and 3, BAD, ahead of -13, -11, -12", () -> {
            for (int sort : new int[] {-1, -2, 3, 4, LOW, HIGH}) {
                refused("lay(0, 0, " + sort + ", 0, 1)", RICH, x -> x.lay(0, 0, sort, 0, 1), BAD);
                refused("missing", RICH, x -> x.lay(3, 0, sort, 0, 1), BAD);
                refused("outside", RICH, x -> x.lay(0, 0, sort, 5, 1), BAD);
            }
        });
        test("37 lay: another sort, -13, ahead of -12", () -> {
            for (int sheet = 0; sheet < 3; sheet++) {
                for (int sort = 0; sort < 3; sort++) {
                    int of = sheet;
                    int as = sort;
                    if (sheet != sort) {
                        refused("SHEET " + sheet + " as " + sort, RICH, x -> x.lay(of, 0, as, 0, 1), UNLIKE);
                        refused("outside", RICH, x -> x.lay(of, 0, as, -1, 1), UNLIKE);
                        refused("outside", RICH, x -> x.lay(of, 0, as, 40, 8), UNLIKE);
                    }
                }
            }
        });
        test("37 lay: missing, -11, ahead of -12", () -> {
            for (int sort = 0; sort < 3; sort++) {
                int as = sort;
                refused("as " + sort, RICH, x -> x.lay(3, 0, as, 0, 1), NOTHING);
                refused("outside", RICH, x -> x.lay(3, 0, as, -1, 8), NOTHING);
            }
        });
        test("37 lay: a place outside, -12", () -> {
            int[][] outside = {{-1, 1}, {5, 1}, {4, 2}, {0, 6}, {0, 8}, {6, 1}, {LOW, 1}, {HIGH, 1}, {HIGH, 8}, {HIGH - 7, 8},
                {LOW, 8}};
            for (int[] w : outside) {
                refused("lay(0, 0, 0, " + w[0] + ", " + w[1] + ")", RICH, x -> x.lay(0, 0, 0, w[0], w[1]), OUTSIDE);
            }
            due("just inside", rich().lay(0, 0, 0, 4, 1), 1);
            due("just inside", rich().lay(0, 0, 0, 3, 2), 2);
            due("just inside", rich().lay(0, 0, 0, 0, 5), 5);
            due("of one of 0", zeros().lay(0, 0, 0, 0, 1), OUTSIDE);
            due("the last of 40", last().lay(0, 0, 0, 32, 8), 8);
            due("one behind", last().lay(0, 0, 0, 33, 8), OUTSIDE);
        });
        test("37 lay: each modulo LIMIT", () -> {
            long[][] rows = {{0, 0}, {1, 1}, {LIMIT - 1, LIMIT - 1}, {LIMIT, 0}, {LIMIT + 1, 1}, {2 * LIMIT - 1, LIMIT - 1},
                {2 * LIMIT, 0}, {Long.MAX_VALUE, 854775807}, {1L << 32, 294967296}};
            for (long[] w : rows) {
                due("of " + w[0], laid(0, w[0]), w[1]);
            }
        });
        test("37 lay: without sign", () -> {
            long[][] rows = {{-1, 1}, {-5, 5}, {1 - LIMIT, LIMIT - 1}, {-LIMIT, 0}, {-LIMIT - 1, 1}, {-2 * LIMIT, 0},
                {Long.MIN_VALUE, 854775808}, {NO, 427387904}};
            for (long[] w : rows) {
                due("of " + w[0], laid(0, w[0]), w[1]);
            }
        });
        test("37 lay: ints and bytes, the least and the greatest", () -> {
            due("int", laid(1, HIGH), 147483647);
            due("int", laid(1, LOW), 147483648);
            due("int", laid(1, 1L << 32), 0);
            due("byte", laid(2, 127), 127);
            due("byte", laid(2, -128), 128);
            due("byte", laid(2, 255), 1);
            due("byte", laid(2, 256), 0);
        });
        test("37 lay: cases from 0 on, whatever from is; the others stay", () -> {
            CourtMatcher x = new CourtMatcher();
            x.tell(3, 2, 77);
            row(x, 0, 2, 1, 2, 3, 4);
            due("lay", x.lay(0, 3, 2, 2, 2), 2);
            due("case 0", x.burden(3, 0), 3);
            due("case 1", x.burden(3, 1), 4);
            due("case 2", x.burden(3, 2), 77);
            due("OWN ones", x.count(5), 3);
            items(x, 0, 1, 2, 3, 4);
        });
        test("37 lay: what was OWN is told anew; the TOTAL follows", () -> {
            CourtMatcher x = court(1, 2);
            x.here(0, 1, 1);
            x.tell(0, 0, 5);
            row(x, 0, 1, 8, 9);
            due("ahead", x.total(), 0);
            x.lay(0, 0, 1, 0, 2);
            due("behind", x.total(), 8);
            x.lay(0, 1, 1, 0, 2);
            due("both", x.total(), 17);
        });
    }

    private static CourtMatcher last() {
        CourtMatcher x = new CourtMatcher();
        x.sheet(0, 0, 40);
        return x;
    }

    /** OWN burden that this number, put into a SHEET of a sort, becomes. */
    private static long laid(int sort, long v) {
        CourtMatcher x = new CourtMatcher();
        row(x, 0, sort, v);
        due("lay", x.lay(0, 4, sort, 0, 1), 1);
        due("OWN ones", x.count(5), 1);
        return x.burden(4, 0);
    }

    public static void main(String[] args) {
        tells();
        film();
        image();
        count();
        sheet();
        put();
        item();
        copy();
        lay();
        Check.end();
    }
}
