/** Terms 1 and 3, promises 17 to 23: each bound from inside and from outside, each refusal, and that it changes nothing. */
public final class BoundsOfBestTest extends Scene {
    private static final long[][] FOUR = {{3, 2, 4}, {1, 0, 5}, {3, 2, 2}, {8, 8, 8}};

    private static CourtMatcher all(long burden) {
        CourtMatcher x = court(8, 8);
        text(x, 0, burden == LIMIT ? "1000*1000*1000" : "" + burden);
        return x;
    }

    /** Case 0 may have judge 0 or 1, case 1 judges 1 to last; all at 0. */
    private static CourtMatcher pairsUpTo(int last) {
        CourtMatcher x = court(last + 1, 2);
        for (int judge = 2; judge <= last; judge++) {
            x.mark(judge, 0, 1);
        }
        x.mark(0, 1, 1);
        return x;
    }

    private static void total() {
        test("terms 1, 17 total: no case is IN, the empty one, 0", () -> {
            due("nobody", court(0, 0).total(), 0);
            due("judges", court(8, 0).total(), 0);
        });
        test("17 total: there is none, NO", () -> {
            due("no judge", court(0, 1).total(), NO);
            due("as many judges", court(7, 7).total(), 0);
            due("one too few", court(7, 8).total(), NO);
            due("one more", court(8, 7).total(), 0);
            due("a case without PAIR", stuck().total(), NO);
        });
        test("17 total: two cases want one judge, NO", () -> {
            CourtMatcher x = court(new long[][] {{1, 2, 9}, {-1, -1, 4}, {-1, -1, 5}});
            due("NO", x.total(), NO);
            x.mark(2, 1, 0);
            due("judge 2 has case 1", x.total(), 1 + 0 + 4);
        });
        test("17 total: eight at LIMIT are more than an int holds", () -> {
            due("8", all(LIMIT).total(), 8000000000L);
            CourtMatcher x = all(LIMIT);
            x.here(1, 0, 0);
            x.here(0, 0, 0);
            due("7", x.total(), 7000000000L);
        });
        test("17 total: one judge, one case", () -> {
            CourtMatcher x = new CourtMatcher();
            x.here(0, 7, 1);
            x.here(1, 0, 1);
            due("0", x.total(), 0);
            x.tell(7, 0, 31);
            due("31", x.total(), 31);
        });
    }

    private static void many() {
        test("terms 1, 18 many: no case is IN, the empty one alone", () -> {
            due("nobody", court(0, 0).many(), 1);
            due("judges", court(8, 0).many(), 1);
        });
        test("18 many: there is none, 0", () -> {
            due("too few", court(7, 8).many(), 0);
            due("stuck", stuck().many(), 0);
        });
        test("18 many: all of eight by eight", () -> {
            due("at 0", court(8, 8).many(), 40320);
            due("at LIMIT", all(LIMIT).many(), 40320);
            due("eight by seven", court(8, 7).many(), 40320);
        });
        test("18 many: one less by a burden of 1", () -> {
            CourtMatcher x = court(2, 1);
            due("like ones", x.many(), 2);
            x.tell(0, 0, 1);
            due("unlike ones", x.many(), 1);
            x.tell(1, 0, 1);
            due("like ones", x.many(), 2);
        });
    }

    private static void best() {
        test("19 best: the first and the last, and what is outside, STATE", () -> {
            CourtMatcher x = court(8, 8);
            due("the first", x.best(0, 0), 0);
            due("the last", x.best(40319, 0), 7);
            due("the one ahead of it", x.best(40318, 7), 1);
            due("the last", x.best(40319, 7), 0);
            for (int i : new int[] {-1, 40320, LOW, HIGH}) {
                due("best(" + i + ", 0)", x.best(i, 0), STATE);
            }
        });
        test("19 best: no such one, STATE, and it changes nothing", () -> {
            for (int i : new int[] {-1, 40320, LOW, HIGH}) {
                refused("best(" + i + ", 0)", RICH, x -> x.best(i, 0), STATE);
                refused("best(" + i + ", 7)", RICH, x -> x.best(i, 7), STATE);
            }
            refused("where there is none", STUCK, x -> x.best(0, 0), STATE);
            refused("where there is none, OUT", STUCK, x -> x.best(0, 7), STATE);
        });
        test("19 best: no such case, BAD, ahead of STATE", () -> {
            for (int matter : NO_SEAT) {
                refused("best(0, " + matter + ")", RICH, x -> x.best(0, matter), BAD);
                refused("best(-1, " + matter + ")", RICH, x -> x.best(-1, matter), BAD);
                refused("where there is none", STUCK, x -> x.best(0, matter), BAD);
            }
        });
        test("19 best: the case is OUT, NONE, of the first and of the last", () -> {
            CourtMatcher x = new CourtMatcher();
            x.here(0, 5, 1);
            x.here(0, 7, 1);
            x.here(1, 7, 1);
            for (int matter = 0; matter < 7; matter++) {
                due("OUT", x.best(0, matter), NONE);
                due("OUT", x.best(1, matter), NONE);
            }
            due("the first", x.best(0, 7), 5);
            due("the last", x.best(1, 7), 7);
            due("no more", x.best(2, 7), STATE);
            due("no more, OUT", x.best(2, 0), STATE);
        });
        test("19 best: the empty one is the first and the last", () -> {
            CourtMatcher x = court(3, 0);
            for (int matter = 0; matter < 8; matter++) {
                due("OUT", x.best(0, matter), NONE);
            }
            due("no second", x.best(1, 0), STATE);
        });
        test("terms 1, ORDER: the first unlike case, by number, has the lower judge", () -> {
            CourtMatcher x = court(3, 2);
            int[][] order = {{0, 1}, {0, 2}, {1, 0}, {1, 2}, {2, 0}, {2, 1}};
            for (int i = 0; i < 6; i++) {
                due("case 0 in " + i, x.best(i, 0), order[i][0]);
                due("case 1 in " + i, x.best(i, 1), order[i][1]);
            }
        });
        test("terms 1, ORDER: a case that is OUT is passed over", () -> {
            CourtMatcher x = new CourtMatcher();
            x.here(0, 1, 1);
            x.here(0, 6, 1);
            x.here(1, 2, 1);
            x.here(1, 5, 1);
            due("case 2 in 0", x.best(0, 2), 1);
            due("case 5 in 0", x.best(0, 5), 6);
            due("case 2 in 1", x.best(1, 2), 6);
            due("case 5 in 1", x.best(1, 5), 1);
        });
        test("terms 1, BEST: one that comes to 1 more is none", () -> {
            CourtMatcher x = court(new long[][] {{5, 5}, {5, 5}});
            due("two", x.many(), 2);
            x.tell(0, 0, 6);
            due("one", x.many(), 1);
            due("the other", x.best(0, 0), 1);
            x.tell(0, 1, 6);
            due("two again", x.many(), 2);
            due("in ORDER", x.best(0, 0), 0);
        });
    }

    private static void kind() {
        test("20 kind: in all, in some, in none", () -> {
            CourtMatcher x = court(FOUR);
            int[][] want = {{1, 1, 0}, {1, 1, 0}, {0, 0, 2}, {0, 0, 0}};
            for (int judge = 0; judge < 4; judge++) {
                for (int matter = 0; matter < 3; matter++) {
                    due("kind(" + judge + ", " + matter + ")", x.kind(judge, matter), want[judge][matter]);
                }
            }
        });
        test("20 kind: where there is but one, all or none", () -> {
            CourtMatcher x = court(new long[][] {{1, 2}, {2, 1}});
            due("all", x.kind(0, 0) + x.kind(1, 1), 4);
            due("none", x.kind(0, 1) + x.kind(1, 0), 0);
        });
        test("20 kind: in all but one is in some, in one alone is in some", () -> {
            CourtMatcher x = court(new long[][] {{0, 0, 0}, {0, 0, 9}, {0, 9, 0}});
            due("many", x.many(), 3);
            due("in one of three", x.kind(0, 0) * 10 + x.kind(0, 1), 11);
            due("in two of three", x.kind(1, 1) * 10 + x.kind(2, 2), 11);
        });
        test("20 kind: the empty one alone, in none", () -> {
            for (int i = 0; i < 64; i++) {
                due("kind", court(0, 0).kind(i / 8, i % 8), 0);
            }
        });
        test("20 kind: one that isn't OPEN is in none", () -> {
            CourtMatcher x = court(2, 2);
            x.mark(0, 0, 2);
            due("FORCED", x.kind(0, 0), 2);
            due("beside", x.kind(0, 1), 0);
            due("OUT", x.kind(7, 7), 0);
            x.mark(0, 0, 1);
            due("BARRED", x.kind(0, 0), 0);
        });
        test("20 kind: no such judge, no such case, BAD, ahead of STATE", () -> {
            for (int who : NO_SEAT) {
                refused("kind(" + who + ", 0)", RICH, x -> x.kind(who, 0), BAD);
                refused("kind(0, " + who + ")", RICH, x -> x.kind(0, who), BAD);
                refused("kind(" + who + ", 0), no BEST one", STUCK, x -> x.kind(who, 0), BAD);
                refused("kind(0, " + who + "), no BEST one", STUCK, x -> x.kind(0, who), BAD);
            }
        });
        test("20 kind: there is no BEST one, STATE", () -> {
            refused("kind(0, 0)", STUCK, x -> x.kind(0, 0), STATE);
            refused("kind(7, 7)", STUCK, x -> x.kind(7, 7), STATE);
            due("too few", court(0, 1).kind(0, 0), STATE);
        });
    }

    private static void room() {
        test("21 room: with it, without it", () -> {
            CourtMatcher x = court(new long[][] {{1, 2}, {5, 9}});
            long[][] want = {{10, 7}, {7, 10}};
            for (int i = 0; i < 4; i++) {
                due("with", x.room(i / 2, i % 2, 0), want[i / 2][i % 2]);
                due("without", x.room(i / 2, i % 2, 1), want[i / 2][1 - i % 2]);
            }
        });
        test("21 room: what -1 and 2, NO", () -> {
            for (int what : new int[] {-1, 2, 3, LOW, HIGH}) {
                refused("room(0, 0, " + what + ")", RICH, x -> x.room(0, 0, what), NO);
            }
        });
        test("21 room: no such judge, no such case, NO", () -> {
            for (int who : NO_SEAT) {
                for (int what = 0; what < 2; what++) {
                    int of = what;
                    refused("room(" + who + ", 0, " + what + ")", RICH, x -> x.room(who, 0, of), NO);
                    refused("room(0, " + who + ", " + what + ")", RICH, x -> x.room(0, who, of), NO);
                }
            }
        });
        test("21 room: there is none with a PAIR that isn't OPEN, NO; all are without it", () -> {
            CourtMatcher x = court(2, 1);
            x.tell(1, 0, 3);
            x.mark(0, 0, 1);
            due("BARRED, with", x.room(0, 0, 0), NO);
            due("BARRED, without", x.room(0, 0, 1), 3);
            due("OUT, with", x.room(7, 7, 0), NO);
            due("OUT, without", x.room(7, 7, 1), 3);
            x.mark(0, 0, 2);
            due("beside, with", x.room(1, 0, 0), NO);
            due("beside, without", x.room(1, 0, 1), 0);
            due("FORCED, with", x.room(0, 0, 0), 0);
            due("FORCED, without", x.room(0, 0, 1), NO);
        });
        test("21 room: the empty one is without each PAIR", () -> {
            due("with", court(8, 0).room(0, 0, 0), NO);
            due("without", court(8, 0).room(0, 0, 1), 0);
        });
        test("21 room: there is no FULL one, NO", () -> {
            for (int what = 0; what < 2; what++) {
                int of = what;
                refused("room(0, 0, " + what + ")", STUCK, x -> x.room(0, 0, of), NO);
                refused("room(1, 1, " + what + ")", STUCK, x -> x.room(1, 1, of), NO);
            }
        });
        test("21 room: the only judge of a case", () -> {
            CourtMatcher x = court(1, 1);
            x.tell(0, 0, LIMIT);
            due("with", x.room(0, 0, 0), LIMIT);
            due("without", x.room(0, 0, 1), NO);
        });
        test("21 room: it is in thought", () -> {
            leaves("with", RICH, x -> x.room(0, 0, 0));
            leaves("without", RICH, x -> x.room(0, 0, 1));
        });
    }

    private static void next() {
        test("22 next: the first is 0, the twelfth 11", () -> {
            CourtMatcher x = court(4, 2);
            due("FULL ones", x.many(), 12);
            int[] judges = {1, 2, 3, 0, 2, 3, 0, 1, 3, 0, 1, 2};
            for (int i = 0; i < 12; i++) {
                due("TOTAL of " + i, x.next(i, NONE), 0);
                due("case 0 of " + i, x.next(i, 0), i / 3);
                due("case 1 of " + i, x.next(i, 1), judges[i]);
            }
            due("no thirteenth", x.next(12, NONE), NO);
        });
        test("terms 3, 22 next: where there are 11, 12 isn't; where there are 13, the 13th isn't told", () -> {
            CourtMatcher x = pairsUpTo(6);
            due("FULL ones", x.many(), 11);
            due("the 11th", x.next(10, 1), 6);
            due("no 12th", x.next(11, NONE), NO);
            due("no 12th", x.next(11, 0), NO);
            x = pairsUpTo(7);
            due("FULL ones", x.many(), 13);
            due("the 12th", x.next(11, 0) * 10 + x.next(11, 1), 16);
            due("the 13th", x.next(12, 0), NO);
        });
        test("22 next: -1 and 12, NO", () -> {
            for (int i : new int[] {-1, 12, 13, LOW, HIGH}) {
                refused("next(" + i + ", -1)", RICH, x -> x.next(i, NONE), NO);
                refused("next(" + i + ", 0)", RICH, x -> x.next(i, 0), NO);
            }
            due("of 40320", court(8, 8).next(12, NONE), NO);
        });
        test("22 next: what -2 and 8, NO", () -> {
            for (int what : new int[] {-2, 8, 9, -3, LOW, HIGH}) {
                refused("next(0, " + what + ")", RICH, x -> x.next(0, what), NO);
                refused("where there is none", STUCK, x -> x.next(0, what), NO);
            }
        });
        test("22 next: there is none such, NO", () -> {
            for (int what = -1; what < 8; what++) {
                int of = what;
                refused("next(0, " + what + ")", STUCK, x -> x.next(0, of), NO);
                due("behind the only one", court(1, 1).next(1, what), NO);
            }
        });
        test("22 next: what NONE, TOTAL; 0 to 7, the judges", () -> {
            CourtMatcher x = all(LIMIT);
            due("TOTAL", x.next(0, NONE), 8 * LIMIT);
            for (int matter = 0; matter < 8; matter++) {
                due("case " + matter, x.next(0, matter), matter);
            }
        });
        test("22 next: the case is OUT, NONE", () -> {
            CourtMatcher x = new CourtMatcher();
            x.here(0, 0, 1);
            x.here(1, 7, 1);
            for (int matter = 0; matter < 7; matter++) {
                due("case " + matter, x.next(0, matter), NONE);
            }
            due("case 7", x.next(0, 7), 0);
        });
        test("22 next: no case is IN, the empty one alone", () -> {
            CourtMatcher x = court(8, 0);
            due("TOTAL", x.next(0, NONE), 0);
            due("case 0", x.next(0, 0), NONE);
            due("no second", x.next(1, NONE), NO);
        });
        test("terms 3, NEXT ONES: by TOTAL, like ones in ORDER", () -> {
            CourtMatcher x = court(new long[][] {{2, 1}, {1, 0}, {2, 1}});
            // (0,1) 2, (0,2) 3, (1,0) 2, (1,2) 2, (2,0) 3, (2,1) 2
            int[][] want = {{0, 1, 2}, {1, 0, 2}, {1, 2, 2}, {2, 1, 2}, {0, 2, 3}, {2, 0, 3}};
            for (int i = 0; i < 6; i++) {
                due("case 0 of " + i, x.next(i, 0), want[i][0]);
                due("case 1 of " + i, x.next(i, 1), want[i][1]);
                due("TOTAL of " + i, x.next(i, NONE), want[i][2]);
            }
            due("no seventh", x.next(6, NONE), NO);
        });
        test("terms 3, NEXT ONES: twelve that leave the ones ahead at many cases", () -> {
            // case 0 takes any judge for 0, all others their own for 0, the one below for 1, and three more by a few
            long[][] burdens = new long[8][8];
            for (int judge = 0; judge < 8; judge++) {
                for (int matter = 1; matter < 8; matter++) {
                    burdens[judge][matter] = judge == matter ? 0 : judge == matter - 1 ? 1 : 1000;
                }
            }
            burdens[6][1] = 2;
            burdens[3][2] = 2;
            burdens[5][7] = 3;
            CourtMatcher x = court(burdens);
            int[] judges = {1234567, 10234567, 20134567, 1324567, 30124567, 10324567, 40123567, 50123467, 60123457,
                6123457, 70123456, 70123465};
            long[] totals = {0, 1, 2, 3, 3, 4, 4, 5, 6, 7, 7, 8};
            for (int i = 0; i < 12; i++) {
                long told = 0;
                for (int matter = 0; matter < 8; matter++) {
                    told = told * 10 + x.next(i, matter);
                }
                due("judges of " + i, told, judges[i]);
                due("TOTAL of " + i, x.next(i, NONE), totals[i]);
            }
        });
        test("terms 3, NEXT ONES: a FULL one that isn't BEST, too; one that isn't FULL, never", () -> {
            CourtMatcher x = court(new long[][] {{1, -1}, {50, 7}});
            due("the only one", x.next(0, NONE), 8);
            due("no second", x.next(1, NONE), NO);
            x.tell(2, 0, 60);
            x.tell(2, 1, 90);
            x.here(0, 2, 1);
            due("the first", x.next(0, NONE), 8);
            due("the second", x.next(1, NONE), 67);
            due("the third", x.next(2, NONE), 91);
            due("the fourth", x.next(3, NONE), 140);
            due("no fifth", x.next(4, NONE), NO);
        });
    }

    private static void fair() {
        test("23 fair: what -1 and 3, NO", () -> {
            for (int what : new int[] {-1, 3, 4, LOW, HIGH}) {
                refused("fair(" + what + ")", RICH, x -> x.fair(what), NO);
                refused("where there is none", STUCK, x -> x.fair(what), NO);
            }
        });
        test("23 fair: there is no FULL one, NO", () -> {
            for (int what = 0; what < 3; what++) {
                int of = what;
                refused("fair(" + what + ")", STUCK, x -> x.fair(of), NO);
            }
        });
        test("terms 3, HEAVIEST: of the empty one 0", () -> {
            for (int what = 0; what < 3; what++) {
                due("fair(" + what + ")", court(8, 0).fair(what), 0);
            }
        });
        test("terms 3, HEAVIEST: the greatest BURDEN, 0, 1, LIMIT", () -> {
            due("0", court(1, 1).fair(0), 0);
            due("1", court(new long[][] {{0, 9}, {9, 1}}).fair(0), 1);
            due("LIMIT", all(LIMIT).fair(0), LIMIT);
            due("TOTAL", all(LIMIT).fair(1), 8 * LIMIT);
            due("none is greater", all(LIMIT).fair(2), 0);
        });
        test("23 fair: the least HEAVIEST comes to more than the least TOTAL", () -> {
            CourtMatcher x = court(new long[][] {{0, 6}, {6, 10}});
            due("TOTAL of the best", x.total(), 10);
            due("HEAVIEST", x.fair(0), 6);
            due("its TOTAL", x.fair(1), 12);
            due("greater ones", x.fair(2), 1);
        });
        test("23 fair: the first PAIR, the last PAIR are too heavy, though the best one has them", () -> {
            CourtMatcher x = court(new long[][] {{9, 8}, {8, 0}});
            due("TOTAL of the best", x.total(), 9);
            due("HEAVIEST", x.fair(0), 8);
            due("its TOTAL", x.fair(1), 16);
            due("greater ones", x.fair(2), 1);
            CourtMatcher last = new CourtMatcher();
            for (int i = 6; i < 8; i++) {
                last.here(0, i, 1);
                last.here(1, i, 1);
            }
            last.tell(7, 7, 9);
            last.tell(6, 7, 8);
            last.tell(7, 6, 8);
            due("TOTAL of the best", last.total(), 9);
            due("HEAVIEST", last.fair(0), 8);
            due("its TOTAL", last.fair(1), 16);
            due("greater ones", last.fair(2), 1);
        });
        test("23 fair: the least TOTAL of those with it, not of all below", () -> {
            CourtMatcher x = court(new long[][] {{7, 1}, {7, 7}, {3, 7}});
            // case 0 by judge 2, case 1 by judge 0: 4
            due("HEAVIEST", x.fair(0), 3);
            due("TOTAL", x.fair(1), 4);
            x.mark(2, 0, 1);
            due("HEAVIEST", x.fair(0), 7);
            due("TOTAL", x.fair(1), 8);
        });
        test("23 fair: PAIRS above it are left out, each of its own judge and case", () -> {
            CourtMatcher x = court(new long[][] {{2, 9, 1}, {8, 3, 9}, {4, 9, 4}});
            // judges 0 1 2: 2 + 3 + 4; judges 2 1 0: 4 + 3 + 1
            due("HEAVIEST", x.fair(0), 4);
            due("TOTAL", x.fair(1), 8);
            due("greater ones", x.fair(2), 4);
            x.tell(2, 0, 7);
            due("TOTAL", x.fair(1), 9);
            x.tell(1, 1, 100);
            due("HEAVIEST", x.fair(0), 9);
            // judges 1 2 0: 8 + 9 + 1
            due("TOTAL", x.fair(1), 18);
            due("greater ones", x.fair(2), 1);
        });
        test("23 fair: like burdens aren't greater, one more is", () -> {
            CourtMatcher x = court(new long[][] {{5}, {5}, {6}, {4}});
            due("HEAVIEST", x.fair(0), 4);
            due("greater ones", x.fair(2), 3);
            x.tell(3, 0, 5);
            due("greater ones", x.fair(2), 1);
        });
        test("23 fair: only OPEN PAIRS are counted", () -> {
            CourtMatcher x = court(new long[][] {{5}, {6}, {7}, {8}});
            due("all", x.fair(2), 3);
            x.mark(1, 0, 1);
            due("BARRED", x.fair(2), 2);
            x.here(0, 2, 0);
            due("OUT", x.fair(2), 1);
            x.tell(4, 0, 99);
            due("OUT", x.fair(2), 1);
            x.mark(0, 0, 2);
            due("FORCED", x.fair(2), 0);
        });
        test("23 fair: it changes nothing", () -> {
            for (int what = 0; what < 3; what++) {
                int of = what;
                leaves("fair(" + what + ")", RICH, x -> x.fair(of));
            }
        });
    }

    public static void main(String[] args) {
        total();
        many();
        best();
        kind();
        room();
        next();
        fair();
        Check.end();
    }
}
