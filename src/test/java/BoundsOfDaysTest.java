/** Terms 3, promises 24 to 27: each bound from inside and from outside, each refusal, and that it changes nothing. */
public final class BoundsOfDaysTest extends Scene {
    /** One case; judge i has burden 10 + i. */
    private static CourtMatcher oneCase(int judges) {
        CourtMatcher x = court(judges, 1);
        for (int judge = 0; judge < judges; judge++) {
            x.tell(judge, 0, 10 + judge);
        }
        return x;
    }

    private static void days() {
        test("24 days: 1 and 8 are the least and the greatest n", () -> {
            CourtMatcher x = oneCase(8);
            long sum = 0;
            for (int n = 1; n <= 8; n++) {
                sum += 9 + n;
                due("days(" + n + ")", x.days(n), sum);
            }
        });
        test("24 days: 0 and 9, NO", () -> {
            for (int n : new int[] {-1, 0, 9, 10, LOW, HIGH}) {
                refused("days(" + n + ")", RICH, x -> x.days(n), NO);
                refused("where all are STILL", STUCK, x -> x.days(n), NO);
                due("of empty ones", court(8, 0).days(n), NO);
            }
        });
        test("24 days: one of them is STILL, NO", () -> {
            CourtMatcher x = oneCase(7);
            due("days(7)", x.days(7), 91);
            due("days(8)", x.days(8), NO);
            x = oneCase(1);
            due("days(1)", x.days(1), 10);
            due("days(2)", x.days(2), NO);
            refused("from the first on", STUCK, y -> y.days(1), NO);
        });
        test("24 days: no case is IN, eight empty ones", () -> {
            for (int n = 1; n <= 8; n++) {
                due("days(" + n + ")", court(0, 0).days(n), 0);
                due("with judges", court(8, 0).days(n), 0);
            }
        });
        test("24 days: eight of eight by eight at LIMIT are more than an int holds", () -> {
            CourtMatcher x = court(8, 8);
            text(x, 0, "1000*1000*1000");
            due("days(1)", x.days(1), 8 * LIMIT);
            due("days(8)", x.days(8), 64 * LIMIT);
        });
        test("terms 3, DAYS: no PAIR meets twice", () -> {
            CourtMatcher x = court(8, 8);
            boolean[] met = new boolean[64];
            for (int day = 0; day < 8; day++) {
                for (int matter = 0; matter < 8; matter++) {
                    int pair = x.day(day, matter) * 8 + matter;
                    Check.holds("meets once", pair >= 0 && pair < 64 && !met[pair]);
                    met[Math.max(0, Math.min(pair, 63))] = true;
                }
            }
        });
        test("terms 3, DAYS: in thought", () -> {
            leaves("days(1)", RICH, x -> x.days(1));
            leaves("days(8)", RICH, x -> x.days(8));
            leaves("day(7, 0)", RICH, x -> x.day(7, 0));
        });
    }

    private static void day() {
        test("25 day: DAYS 0 and 7, cases 0 and 7 are the first and the last", () -> {
            CourtMatcher x = oneCase(8);
            for (int day = 0; day < 8; day++) {
                due("day(" + day + ", 0)", x.day(day, 0), day);
                due("OUT", x.day(day, 7), NONE);
            }
            CourtMatcher last = new CourtMatcher();
            last.here(1, 7, 1);
            last.here(0, 3, 1);
            due("case 7", last.day(0, 7), 3);
            due("case 0", last.day(0, 0), NONE);
        });
        test("25 day: -1 and 8, BAD", () -> {
            for (int day : NO_SEAT) {
                refused("day(" + day + ", 0)", RICH, x -> x.day(day, 0), BAD);
                refused("where all are STILL", STUCK, x -> x.day(day, 0), BAD);
                due("of empty ones", court(0, 0).day(day, 0), BAD);
            }
        });
        test("25 day: no such case, BAD, ahead of STATE", () -> {
            for (int matter : NO_SEAT) {
                refused("day(0, " + matter + ")", RICH, x -> x.day(0, matter), BAD);
                refused("where all are STILL", STUCK, x -> x.day(0, matter), BAD);
                refused("where all are STILL", STUCK, x -> x.day(7, matter), BAD);
            }
        });
        test("25 day: that DAY is STILL, STATE, also of a case that is OUT", () -> {
            refused("the first", STUCK, x -> x.day(0, 0), STATE);
            refused("the last", STUCK, x -> x.day(7, 7), STATE);
            CourtMatcher x = oneCase(7);
            due("the seventh", x.day(6, 0), 6);
            due("the eighth", x.day(7, 0), STATE);
            due("the eighth, OUT", x.day(7, 1), STATE);
        });
        test("25 day: no case is IN, NONE on all", () -> {
            for (int i = 0; i < 64; i++) {
                due("day", court(8, 0).day(i / 8, i % 8), NONE);
            }
        });
        test("terms 3, DAYS: if one has no BEST one, all behind it are STILL", () -> {
            // case 1 has judge 2 alone: on the second day there is none
            CourtMatcher x = court(new long[][] {{1, -1}, {2, -1}, {3, 4}});
            due("the first", x.day(0, 0) * 10 + x.day(0, 1), 2);
            for (int day = 1; day < 8; day++) {
                due("day " + day, x.day(day, 0), STATE);
            }
            due("days(1)", x.days(1), 5);
            due("days(2)", x.days(2), NO);
        });
        test("terms 3, DAYS: the first BEST one in ORDER is heard", () -> {
            CourtMatcher x = court(3, 2);
            due("the first", x.day(0, 0) * 10 + x.day(0, 1), 1);
            due("the second", x.day(1, 0) * 10 + x.day(1, 1), 10);
            x.tell(1, 0, 1);
            due("the second, then", x.day(1, 0) * 10 + x.day(1, 1), 20);
        });
        test("terms 3, DAYS: a FORCED one that was heard forces no more", () -> {
            CourtMatcher x = court(new long[][] {{9, 1}, {1, 9}});
            x.mark(0, 0, 2);
            due("the first", x.day(0, 0) * 10 + x.day(0, 1), 1);
            due("the second", x.day(1, 0) * 10 + x.day(1, 1), 10);
            due("the third", x.day(2, 0), STATE);
            due("days(2)", x.days(2), 18 + 2);
            due("it is FORCED truly", x.mark(0, 0, 2), 2);
        });
        test("terms 3, DAYS: a FORCED one that wasn't heard forces on", () -> {
            CourtMatcher x = court(2, 1);
            x.mark(0, 7, 2);
            due("the first", x.day(0, 0), 1);
            due("the second", x.day(1, 0), STATE);
        });
        test("terms 3, DAYS: one that is BARRED truly is never heard", () -> {
            CourtMatcher x = oneCase(3);
            x.mark(1, 0, 1);
            due("the first", x.day(0, 0), 0);
            due("the second", x.day(1, 0), 2);
            due("the third", x.day(2, 0), STATE);
        });
    }

    private static void lack() {
        test("26 lack: what -1 and 3, BAD", () -> {
            for (int what : new int[] {-1, 3, 4, LOW, HIGH}) {
                refused("lack(" + what + ")", RICH, x -> x.lack(what), BAD);
                refused("where one is short", STUCK, x -> x.lack(what), BAD);
                due("of a new object", new CourtMatcher().lack(what), BAD);
            }
        });
        test("26 lack: nothing is short", () -> {
            for (int what = 0; what < 3; what++) {
                due("all", court(8, 8).lack(what), 0);
                due("judges alone", court(8, 0).lack(what), 0);
                due("nobody", court(0, 0).lack(what), 0);
            }
        });
        test("26 lack: all are short", () -> {
            int[] want = {8, 255, 0};
            for (int what = 0; what < 3; what++) {
                due("lack(" + what + ")", court(0, 8).lack(what), want[what]);
            }
        });
        test("26 lack: one is short", () -> {
            int[] want = {1, 255, 127};
            for (int what = 0; what < 3; what++) {
                due("lack(" + what + ")", court(7, 8).lack(what), want[what]);
                due("not with one judge more", court(8, 8).lack(what), 0);
            }
        });
        test("26 lack: bits of judge 7, of case 7", () -> {
            CourtMatcher x = new CourtMatcher();
            x.here(0, 7, 1);
            x.here(1, 7, 1);
            x.here(1, 6, 1);
            due("short", x.lack(0), 1);
            due("cases", x.lack(1), 192);
            due("judges", x.lack(2), 128);
        });
        test("terms 3, SHORT: by all OPEN PAIRS, whatever their BURDEN", () -> {
            CourtMatcher x = court(new long[][] {{0, 0}, {LIMIT, LIMIT}});
            for (int what = 0; what < 3; what++) {
                due("lack(" + what + ")", x.lack(what), 0);
            }
            x.mark(1, 0, 1);
            x.mark(1, 1, 1);
            due("BARRED", x.lack(0) * 100 + x.lack(1) * 10 + x.lack(2), 131);
        });
        test("terms 3, SHORT: cases without PAIR alone, others aren't MARKED", () -> {
            refused("left out", STUCK, x -> x.lack(0), 1);
            refused("cases", STUCK, x -> x.lack(1), 2);
            refused("judges", STUCK, x -> x.lack(2), 0);
        });
        test("26 lack: it changes nothing, ROUNDS neither", () -> {
            for (int what = 0; what < 3; what++) {
                int of = what;
                leaves("lack(" + what + ")", RICH, x -> x.lack(of));
            }
        });
    }

    private static void without() {
        test("27 without: no such side, NO", () -> {
            for (int side : NO_SIDE) {
                refused("without(" + side + ", 0)", RICH, x -> x.without(side, 0), NO);
            }
        });
        test("27 without: no such judge or case, NO", () -> {
            for (int who : NO_SEAT) {
                refused("without(0, " + who + ")", RICH, x -> x.without(0, who), NO);
                refused("without(1, " + who + ")", RICH, x -> x.without(1, who), NO);
                due("of the empty one", court(0, 0).without(1, who), NO);
            }
        });
        test("27 without: 0 and 7 of either side", () -> {
            CourtMatcher x = court(8, 8);
            for (int judge = 0; judge < 8; judge++) {
                for (int matter = 0; matter < 8; matter++) {
                    x.tell(judge, matter, 1 << matter);
                }
            }
            due("judge 0", x.without(0, 0), NO);
            due("judge 7", x.without(0, 7), NO);
            for (int matter = 0; matter < 8; matter++) {
                due("case " + matter, x.without(1, matter), 255 - (1 << matter));
            }
        });
        test("27 without: one that is OUT, the TOTAL as it is", () -> {
            CourtMatcher x = court(new long[][] {{4}, {6}});
            due("judge 7", x.without(0, 7), 4);
            due("case 7", x.without(1, 7), 4);
            due("where there is none", stuck().without(0, 7), NO);
        });
        test("27 without: the last case, the empty one, 0", () -> {
            CourtMatcher x = court(new long[][] {{4}, {6}});
            due("case 0", x.without(1, 0), 0);
            due("judge 0", x.without(0, 0), 6);
            due("judge 1", x.without(0, 1), 4);
            x.here(0, 0, 0);
            due("the last judge", x.without(0, 1), NO);
        });
        test("27 without: the case that is short", () -> {
            refused("case 1", STUCK, x -> x.without(1, 1), 2);
            refused("case 0", STUCK, x -> x.without(1, 0), NO);
            due("one of two", court(1, 2).without(1, 0), 0);
        });
        test("27 without: a FORCED PAIR of one that is OUT in thought forces on", () -> {
            CourtMatcher x = court(2, 2);
            x.tell(1, 1, 7);
            x.mark(0, 0, 2);
            due("its judge", x.without(0, 0), NO);
            due("its case: judge 1 has the other", x.without(1, 0), 7);
            x.mark(1, 1, 1);
            due("its case: judge 0 may not", x.without(1, 0), NO);
        });
        test("27 without: in thought", () -> {
            leaves("a judge", RICH, x -> x.without(0, 0));
            leaves("a case", RICH, x -> x.without(1, 0));
            leaves("judge 4", RICH, x -> x.without(0, 4));
        });
    }

    public static void main(String[] args) {
        days();
        day();
        lack();
        without();
        Check.end();
    }
}
