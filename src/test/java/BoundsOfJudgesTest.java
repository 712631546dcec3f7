/** Terms 1, promises 1 to 7: each bound from inside and from outside, each refusal, and that it changes nothing. */
public final class BoundsOfJudgesTest extends Scene {
    private static void newObject() {
        test("1 a new object: all judges and cases are OUT", () -> {
            CourtMatcher x = new CourtMatcher();
            due("judges IN", x.count(0), 0);
            due("cases IN", x.count(1), 0);
            for (int who = 0; who < 8; who++) {
                due("here(0, " + who + ", 0)", x.here(0, who, 0), 0);
                due("here(1, " + who + ", 0)", x.here(1, who, 0), 0);
            }
        });
        test("1 a new object: all RULES are EMPTY", () -> {
            CourtMatcher x = new CourtMatcher();
            for (int rule = 0; rule < 4; rule++) {
                due("told(" + rule + ", 0)", x.told(rule, 0), 0);
                due("value", x.value(rule, 0, 0), 0);
                due("empty(" + rule + ")", x.empty(rule), 0);
            }
        });
        test("terms 1: TRAITS are 0 at first", () -> {
            CourtMatcher x = new CourtMatcher();
            for (int i = 0; i < 48; i++) {
                due("trait " + i, x.trait(i / 24, i / 3 % 8, i % 3, 1), 0);
            }
        });
        test("terms 1: PAIRS are FREE at first, without OWN burden", () -> {
            CourtMatcher x = new CourtMatcher();
            due("FORCED ones", x.count(3), 0);
            due("BARRED ones", x.count(4), 0);
            due("OWN burdens", x.count(5), 0);
            for (int i = 0; i < 64; i++) {
                due("mark of " + i, x.mark(i / 8, i % 8, 0), 0);
                due("burden of " + i, x.burden(i / 8, i % 8), 0);
            }
        });
        test("1 a new object: no ROUNDS, no IMAGE, no SHEET, THE TAPE is empty", () -> {
            CourtMatcher x = new CourtMatcher();
            due("ROUNDS", x.count(6), 0);
            due("bytes", x.count(7), 0);
            due("round(0, 0)", x.round(0, 0), NO);
            due("price(0, 0, 0)", x.price(0, 0, 0), NO);
            due("back()", x.back(), STATE);
            for (int sheet = 0; sheet < 4; sheet++) {
                due("put", x.put(sheet, 0, 0), NOTHING);
            }
            due("text(0)", x.text(0), -100);
        });
        test("1 a new object: it has nothing of another one", () -> {
            CourtMatcher one = rich();
            CourtMatcher x = new CourtMatcher();
            for (int what = 0; what < 8; what++) {
                due("count(" + what + ")", x.count(what), 0);
            }
            due("back()", x.back(), STATE);
            x.here(0, 7, 1);
            due("the other one's judges", one.count(0), 5);
        });
        test("1 a new object: the empty MATCHING is all there is", () -> {
            due("total()", new CourtMatcher().total(), 0);
            due("many()", new CourtMatcher().many(), 1);
            due("best(0, 7)", new CourtMatcher().best(0, 7), NONE);
            due("kind(7, 7)", new CourtMatcher().kind(7, 7), 0);
            due("room(0, 0, 0)", new CourtMatcher().room(0, 0, 0), NO);
            due("room(0, 0, 1)", new CourtMatcher().room(0, 0, 1), 0);
            due("next(0, NONE)", new CourtMatcher().next(0, NONE), 0);
            due("next(0, 0)", new CourtMatcher().next(0, 0), NONE);
            due("fair(1)", new CourtMatcher().fair(1), 0);
            due("days(8)", new CourtMatcher().days(8), 0);
            due("day(7, 7)", new CourtMatcher().day(7, 7), NONE);
            due("lack(0)", new CourtMatcher().lack(0), 0);
            due("without(0, 0)", new CourtMatcher().without(0, 0), 0);
            due("film(0, 0)", new CourtMatcher().film(0, 0), 0);
            due("solve()", new CourtMatcher().solve(), 1);
            due("open(0, 0)", new CourtMatcher().open(0, 0), 0);
            due("why(0, 0, 1)", new CourtMatcher().why(0, 0, 1), NONE);
        });
        test("terms 1: the constants", () -> {
            due("NONE", CourtMatcher.NONE, -1);
            due("BAD", CourtMatcher.BAD, -2);
            due("STATE", CourtMatcher.STATE, -3);
            due("FULL", CourtMatcher.FULL, -4);
            due("RING", CourtMatcher.RING, -5);
            due("NO", CourtMatcher.NO, -4611686018427387904L);
        });
    }

    private static void here() {
        test("2 here: 0 and 7 are the first and the last, of either side", () -> {
            CourtMatcher x = new CourtMatcher();
            for (int side = 0; side < 2; side++) {
                due("0", x.here(side, 0, 1), 0);
                due("7", x.here(side, 7, 1), 0);
                due("0 again", x.here(side, 0, 1), 1);
                due("7 again", x.here(side, 7, 1), 1);
                due("IN", x.count(side), 2);
            }
            due("open(7, 7)", x.open(7, 7), 1);
        });
        test("2 here: it answers what it was", () -> {
            CourtMatcher x = new CourtMatcher();
            due("OUT to OUT", x.here(0, 3, 0), 0);
            due("OUT to IN", x.here(0, 3, 1), 0);
            due("IN to IN", x.here(0, 3, 1), 1);
            due("IN to OUT", x.here(0, 3, 0), 1);
            due("OUT again", x.here(0, 3, 0), 0);
        });
        test("2 here: eight are IN, then one is OUT, then none is IN", () -> {
            CourtMatcher x = court(8, 8);
            due("all", x.count(0) * 10 + x.count(1), 88);
            x.here(0, 7, 0);
            x.here(1, 0, 0);
            due("one less", x.count(0) * 10 + x.count(1), 77);
            for (int who = 0; who < 8; who++) {
                x.here(0, who, 0);
                x.here(1, who, 0);
            }
            due("none", x.count(0) * 10 + x.count(1), 0);
        });
        test("2 here: no such judge or case, BAD", () -> {
            for (int who : NO_SEAT) {
                refused("here(0, " + who + ", 1)", RICH, x -> x.here(0, who, 1), BAD);
                refused("here(1, " + who + ", 0)", RICH, x -> x.here(1, who, 0), BAD);
            }
        });
        test("2 here: no such side, BAD", () -> {
            for (int side : NO_SIDE) {
                refused("here(" + side + ", 0, 0)", RICH, x -> x.here(side, 0, 0), BAD);
            }
        });
        test("2 here: neither IN nor OUT, BAD", () -> {
            for (int is : NO_SIDE) {
                refused("here(0, 0, " + is + ")", RICH, x -> x.here(0, 0, is), BAD);
                refused("here(1, 7, " + is + ")", RICH, x -> x.here(1, 7, is), BAD);
            }
        });
    }

    private static void trait() {
        test("3 trait: -999 and 999 are the least and the greatest", () -> {
            CourtMatcher x = new CourtMatcher();
            due("999", x.trait(0, 0, 0, 999), 0);
            due("-999", x.trait(0, 0, 0, -999), 999);
            due("what it was", x.trait(0, 0, 0, 0), -999);
            text(x, 0, "a*z");
            x.trait(0, 0, 0, 999);
            x.trait(1, 0, 2, 999);
            due("VALUE", x.value(0, 0, 0), 998001);
        });
        test("3 trait: -1000 and 1000, BAD", () -> {
            for (int v : new int[] {-1000, 1000, 65536, -65536, LOW, HIGH}) {
                refused("trait(0, 0, 0, " + v + ")", RICH, x -> x.trait(0, 0, 0, v), BAD);
                refused("trait(1, 7, 2, " + v + ")", RICH, x -> x.trait(1, 7, 2, v), BAD);
            }
        });
        test("3 trait: each of 2 sides, of 0 .. 7, of TRAITS 0 .. 2 is one of its own", () -> {
            CourtMatcher x = new CourtMatcher();
            for (int i = 0; i < 48; i++) {
                due("at first " + i, x.trait(i / 24, i / 3 % 8, i % 3, 100 + i), 0);
            }
            for (int i = 0; i < 48; i++) {
                due("then " + i, x.trait(i / 24, i / 3 % 8, i % 3, 0), 100 + i);
            }
        });
        test("3 trait: TRAITS -1 and 3, BAD", () -> {
            for (int which : new int[] {-1, 3, 4, -3, 24, LOW, HIGH}) {
                refused("trait(0, 1, " + which + ", 0)", RICH, x -> x.trait(0, 1, which, 0), BAD);
                refused("trait(1, 0, " + which + ", 0)", RICH, x -> x.trait(1, 0, which, 0), BAD);
            }
        });
        test("3 trait: no such judge or case, BAD", () -> {
            for (int who : NO_SEAT) {
                refused("trait(0, " + who + ", 0, 0)", RICH, x -> x.trait(0, who, 0, 0), BAD);
                refused("trait(1, " + who + ", 2, 0)", RICH, x -> x.trait(1, who, 2, 0), BAD);
            }
        });
        test("3 trait: no such side, BAD", () -> {
            for (int side : NO_SIDE) {
                refused("trait(" + side + ", 0, 0, 0)", RICH, x -> x.trait(side, 0, 0, 0), BAD);
            }
        });
        test("3 trait: one that is OUT has TRAITS, too", () -> {
            CourtMatcher x = new CourtMatcher();
            x.trait(0, 7, 2, 12);
            x.here(0, 7, 1);
            x.here(0, 7, 0);
            due("what it was", x.trait(0, 7, 2, 0), 12);
        });
    }

    private static void tell() {
        test("4 tell: 0 and LIMIT are the least and the greatest OWN burden", () -> {
            CourtMatcher x = court(1, 1);
            due("0", x.tell(0, 0, 0), 0);
            due("it is an OWN one", x.count(5), 1);
            due("1", x.tell(0, 0, 1), 1);
            due("LIMIT - 1", x.tell(0, 0, LIMIT - 1), LIMIT - 1);
            due("LIMIT", x.tell(0, 0, LIMIT), LIMIT);
            due("burden", x.burden(0, 0), LIMIT);
        });
        test("4 tell: NONE takes an OWN burden away", () -> {
            CourtMatcher x = court(1, 1);
            text(x, 0, "6");
            due("OWN", x.tell(0, 0, 9), 9);
            due("what RULE 0 tells", x.tell(0, 0, NONE), 6);
            due("OWN ones", x.count(5), 0);
            due("where there is none", x.tell(0, 0, NONE), 6);
        });
        test("4 tell: -2 and LIMIT + 1, BAD", () -> {
            for (long v : new long[] {-2, LIMIT + 1, LIMIT * 2, -LIMIT, NO, 1L << 32, (1L << 32) - 1, 1L << 63, Long.MAX_VALUE}) {
                refused("tell(0, 0, " + v + ")", RICH, x -> x.tell(0, 0, v), BAD);
                refused("tell(7, 7, " + v + ")", STUCK, x -> x.tell(7, 7, v), BAD);
            }
        });
        test("4 tell: no such judge, no such case, BAD", () -> {
            for (int who : NO_SEAT) {
                refused("tell(" + who + ", 0, 1)", RICH, x -> x.tell(who, 0, 1), BAD);
                refused("tell(0, " + who + ", 1)", RICH, x -> x.tell(0, who, 1), BAD);
                refused("tell(1, " + who + ", NONE)", RICH, x -> x.tell(1, who, NONE), BAD);
            }
        });
        test("4 tell: each of 64 PAIRS has an OWN burden of its own", () -> {
            CourtMatcher x = new CourtMatcher();
            for (int i = 0; i < 64; i++) {
                due("no case IN", x.tell(i / 8, i % 8, 1000 + i), 0);
                due("OWN ones", x.count(5), i + 1);
            }
            for (int i = 0; i < 64; i++) {
                due("burden of " + i, x.burden(i / 8, i % 8), 1000 + i);
            }
        });
        test("4 tell: NO, where there is no BEST one then", () -> {
            CourtMatcher x = court(1, 2);
            due("too few judges", x.tell(0, 0, 5), NO);
            due("it is told all the same", x.burden(0, 0), 5);
            x.here(0, 1, 1);
            due("enough", x.tell(1, 1, 7), 0);
            due("the other way is dearer", x.tell(0, 1, 9), 9);
            due("now it is not", x.tell(1, 0, 4), 12);
        });
        test("4 tell: one that is OUT doesn't matter to the TOTAL", () -> {
            CourtMatcher x = court(1, 1);
            x.tell(0, 0, 8);
            due("judge OUT", x.tell(1, 0, 1), 8);
            due("case OUT", x.tell(0, 1, 1), 8);
            x.here(0, 1, 1);
            due("judge IN", x.total(), 1);
        });
    }

    private static void burden() {
        test("terms 1, 5 burden: EMPTY, 0", () -> due("burden(7, 0)", new CourtMatcher().burden(7, 0), 0));
        test("terms 1, 5 burden: what RULE 0 tells, below 0 as 0", () -> {
            CourtMatcher x = new CourtMatcher();
            text(x, 0, "a");
            long[][] want = {{-999, 0}, {-1, 0}, {0, 0}, {1, 1}, {999, 999}};
            for (long[] w : want) {
                x.trait(0, 7, 0, (int) w[0]);
                due("burden of " + w[0], x.burden(7, 7), w[1]);
                due("VALUE of " + w[0], x.value(0, 7, 7), w[0]);
            }
        });
        test("terms 1, 5 burden: RULE 0 tells up to LIMIT", () -> {
            CourtMatcher x = court(1, 1);
            text(x, 0, "1000*1000*1000+a");
            due("LIMIT", x.burden(0, 0), LIMIT);
            due("total", x.total(), LIMIT);
            x.trait(0, 0, 0, -1);
            due("LIMIT - 1", x.burden(0, 0), LIMIT - 1);
            x.trait(0, 0, 0, 1);
            due("it FAILS", x.burden(0, 0), NO);
            due("total", x.total(), NO);
        });
        test("terms 1, 5 burden: none where RULE 0 FAILS, but for an OWN one", () -> {
            CourtMatcher x = court(1, 1);
            text(x, 0, "mod(1,x)");
            due("none", x.burden(0, 0), NO);
            x.tell(0, 0, 0);
            due("OWN", x.burden(0, 0), 0);
            x.tell(0, 0, NONE);
            due("none any more", x.burden(0, 0), NO);
            x.trait(1, 0, 0, 1);
            due("it doesn't FAIL", x.burden(0, 0), 0);
        });
        test("terms 1, 5 burden: OWN ones come ahead of RULE 0, also the lesser", () -> {
            CourtMatcher x = new CourtMatcher();
            text(x, 0, "5");
            x.tell(0, 0, 4);
            x.tell(0, 1, 6);
            x.tell(0, 2, 0);
            due("less", x.burden(0, 0), 4);
            due("more", x.burden(0, 1), 6);
            due("0", x.burden(0, 2), 0);
            due("none", x.burden(0, 3), 5);
        });
        test("terms 1, 5 burden: only RULE 0 tells", () -> {
            CourtMatcher x = new CourtMatcher();
            for (int rule = 1; rule < 4; rule++) {
                text(x, rule, "9");
            }
            due("burden", x.burden(0, 0), 0);
        });
        test("5 burden: of PAIRS that are OUT, BARRED, beside a FORCED one, too", () -> {
            CourtMatcher x = new CourtMatcher();
            x.tell(2, 3, 8);
            due("OUT", x.burden(2, 3), 8);
            x.mark(2, 3, 1);
            due("BARRED", x.burden(2, 3), 8);
            x.mark(2, 4, 2);
            due("beside", x.burden(2, 3), 8);
        });
        test("5 burden: no such judge, no such case, NO", () -> {
            for (int who : NO_SEAT) {
                refused("burden(" + who + ", 0)", RICH, x -> x.burden(who, 0), NO);
                refused("burden(0, " + who + ")", RICH, x -> x.burden(0, who), NO);
            }
        });
    }

    private static CourtMatcher barredBeside() {
        CourtMatcher x = court(3, 3);
        x.mark(1, 1, 2);
        x.mark(1, 2, 1);
        return x;
    }

    private static void mark() {
        test("6 mark: FREE, BARRED, FORCED, and what it was", () -> {
            CourtMatcher x = new CourtMatcher();
            int[] to = {0, 1, 1, 2, 2, 0, 2, 1, 0};
            int was = 0;
            for (int mark : to) {
                due("to " + mark, x.mark(7, 0, mark), was);
                was = mark;
            }
        });
        test("6 mark: MARKS -1 and 3, BAD", () -> {
            for (int mark : new int[] {-1, 3, 4, 258, LOW, HIGH}) {
                refused("mark(0, 0, " + mark + ")", RICH, x -> x.mark(0, 0, mark), BAD);
                refused("beside a FORCED one, " + mark, RICH, x -> x.mark(7, 6, mark), BAD);
            }
        });
        test("6 mark: no such judge, no such case, BAD", () -> {
            for (int who : NO_SEAT) {
                for (int mark = 0; mark < 3; mark++) {
                    int to = mark;
                    refused("mark(" + who + ", 1, " + mark + ")", RICH, x -> x.mark(who, 1, to), BAD);
                    refused("mark(1, " + who + ", " + mark + ")", RICH, x -> x.mark(1, who, to), BAD);
                }
            }
        });
        test("6 mark: another PAIR of its judge is FORCED, STATE", () -> {
            for (int matter = 0; matter < 7; matter++) {
                int to = matter;
                refused("mark(7, " + matter + ", 2)", RICH, x -> x.mark(7, to, 2), STATE);
            }
        });
        test("6 mark: another PAIR of its case is FORCED, STATE", () -> {
            for (int judge = 0; judge < 7; judge++) {
                int who = judge;
                refused("mark(" + judge + ", 7, 2)", RICH, x -> x.mark(who, 7, 2), STATE);
            }
        });
        test("6 mark: a BARRED one stays BARRED by STATE", () -> {
            Maker maker = BoundsOfJudgesTest::barredBeside;
            refused("mark(1, 2, 2)", maker, x -> x.mark(1, 2, 2), STATE);
            due("what it was", barredBeside().mark(1, 2, 0), 1);
        });
        test("6 mark: beside a FORCED one FREE and BARRED are no matter", () -> {
            CourtMatcher x = court(3, 3);
            x.mark(1, 1, 2);
            due("BARRED, of its judge", x.mark(1, 0, 1), 0);
            due("BARRED, of its case", x.mark(0, 1, 1), 0);
            due("FREE", x.mark(1, 0, 0), 1);
            due("FORCED again", x.mark(1, 1, 2), 2);
        });
        test("6 mark: BARRED ones beside don't hinder a FORCED one", () -> {
            CourtMatcher x = court(3, 3);
            x.mark(1, 0, 1);
            x.mark(0, 1, 1);
            due("FORCED", x.mark(1, 1, 2), 0);
        });
        test("6 mark: eight PAIRS are FORCED at most, one of each judge, one of each case", () -> {
            CourtMatcher x = new CourtMatcher();
            for (int i = 0; i < 8; i++) {
                due("FORCED", x.mark(i, 7 - i, 2), 0);
            }
            due("FORCED ones", x.count(3), 8);
            for (int i = 0; i < 64; i++) {
                due("mark of " + i, x.mark(i / 8, i % 8, 2), i / 8 + i % 8 == 7 ? 2 : STATE);
            }
            due("FORCED ones", x.count(3), 8);
        });
        test("6 mark: when the FORCED one is FREE again, another one may be FORCED", () -> {
            CourtMatcher x = new CourtMatcher();
            x.mark(0, 0, 2);
            due("STATE", x.mark(0, 7, 2), STATE);
            x.mark(0, 0, 0);
            due("its judge", x.mark(0, 7, 2), 0);
            due("its case", x.mark(7, 0, 2), 0);
            x.mark(7, 0, 1);
            due("BARRED isn't FORCED", x.mark(6, 0, 2), 0);
        });
    }

    private static void open() {
        test("terms 1, 7 open: its judge and its case are IN", () -> {
            CourtMatcher x = new CourtMatcher();
            due("neither", x.open(7, 7), 0);
            x.here(0, 7, 1);
            due("the judge alone", x.open(7, 7), 0);
            x.here(1, 7, 1);
            due("both", x.open(7, 7), 1);
            x.here(0, 7, 0);
            due("the case alone", x.open(7, 7), 0);
        });
        test("terms 1, 7 open: it has a BURDEN, be it 0 or LIMIT", () -> {
            CourtMatcher x = court(1, 1);
            text(x, 0, "div(1,0)");
            due("none", x.open(0, 0), 0);
            x.tell(0, 0, 0);
            due("0", x.open(0, 0), 1);
            x.tell(0, 0, LIMIT);
            due("LIMIT", x.open(0, 0), 1);
            x.tell(0, 0, NONE);
            due("none any more", x.open(0, 0), 0);
        });
        test("terms 1, 7 open: it isn't BARRED", () -> {
            CourtMatcher x = court(1, 1);
            x.mark(0, 0, 1);
            due("BARRED", x.open(0, 0), 0);
            x.mark(0, 0, 2);
            due("FORCED", x.open(0, 0), 1);
            x.mark(0, 0, 0);
            due("FREE", x.open(0, 0), 1);
        });
        test("terms 1, 7 open: no other PAIR of its judge or of its case is FORCED", () -> {
            CourtMatcher x = court(8, 8);
            x.mark(3, 5, 2);
            for (int i = 0; i < 64; i++) {
                boolean beside = i / 8 == 3 != (i % 8 == 5);
                due("open(" + i / 8 + ", " + i % 8 + ")", x.open(i / 8, i % 8), beside ? 0 : 1);
            }
            due("OPEN PAIRS", x.count(2), 50);
        });
        test("terms 1, 7 open: a FORCED one that is OUT or has no BURDEN forces, too", () -> {
            CourtMatcher x = court(2, 2);
            x.mark(0, 7, 2);
            due("its case is OUT", x.open(0, 0), 0);
            x.mark(0, 7, 0);
            x.mark(7, 0, 2);
            due("its judge is OUT", x.open(0, 0), 0);
            due("another case", x.open(0, 1), 1);
            x.mark(7, 0, 0);
            text(x, 0, "div(1,0)");
            x.tell(0, 0, 1);
            x.mark(0, 1, 2);
            due("it has no BURDEN", x.open(0, 0), 0);
            due("nor is it OPEN", x.open(0, 1), 0);
        });
        test("7 open: all of 64", () -> {
            CourtMatcher x = court(8, 8);
            for (int i = 0; i < 64; i++) {
                due("open", x.open(i / 8, i % 8), 1);
            }
        });
        test("7 open: no such judge, no such case, BAD", () -> {
            for (int who : NO_SEAT) {
                refused("open(" + who + ", 0)", RICH, x -> x.open(who, 0), BAD);
                refused("open(0, " + who + ")", RICH, x -> x.open(0, who), BAD);
            }
        });
    }

    private static void changes() {
        test("2 to 6: what is asked follows what is told, whatever was asked ahead", () -> {
            follows("judge 0 is OUT", RICH, x -> x.here(0, 0, 0));
            follows("judge 5 is IN", RICH, x -> x.here(0, 5, 1));
            follows("case 0 is OUT", RICH, x -> x.here(1, 0, 0));
            follows("case 7 is IN", RICH, x -> x.here(1, 7, 1));
            follows("TRAIT of a judge", RICH, x -> x.trait(0, 1, 0, 99));
            follows("TRAIT of a case", RICH, x -> x.trait(1, 1, 1, -99));
            follows("OWN burden", RICH, x -> x.tell(2, 2, 1));
            follows("none OWN", RICH, x -> x.tell(0, 0, NONE));
            follows("BARRED", RICH, x -> x.mark(1, 0, 1));
            follows("FORCED", RICH, x -> x.mark(0, 2, 2));
            follows("FREE", RICH, x -> x.mark(4, 3, 0));
            follows("case 1 has a judge", STUCK, x -> x.mark(0, 1, 0));
        });
    }

    public static void main(String[] args) {
        changes();
        newObject();
        here();
        trait();
        tell();
        burden();
        mark();
        open();
        Check.end();
    }
}
