import java.util.ArrayList;
import java.util.HashMap;
import java.util.List;
import java.util.Map;

/**
 * What the tests of bounds stand on: courts made by hand, and whether a call that is refused (or only asks) leaves all
 * as it was. No object of them is used for more than 512 calls.
 */
abstract class Scene {
    static final int NONE = -1, BAD = -2, STATE = -3, FULL = -4, RING = -5;
    static final int NOTHING = -11, OUTSIDE = -12, UNLIKE = -13, NEGATIVE = -14;
    static final long NO = -4611686018427387904L;
    static final long LIMIT = 1000000000L;
    static final int LOW = Integer.MIN_VALUE, HIGH = Integer.MAX_VALUE;

    /** None such: just outside of 0 .. 7, 0 .. 3, 0 .. 1, then what would wrap around. */
    static final int[] NO_SEAT = {-1, 8, 9, -8, 32, 256, LOW, HIGH};
    static final int[] NO_RULE = {-1, 4, 5, -4, 32, LOW, HIGH};
    static final int[] NO_SHEET = {-1, 4, 5, -4, 32, LOW, HIGH};
    static final int[] NO_SIDE = {-1, 2, 3, 32, LOW, HIGH};

    interface Maker {
        CourtMatcher make();
    }

    interface Call {
        long on(CourtMatcher x);
    }

    interface Probe {
        void ask(CourtMatcher x, List<Long> answers);
    }

    static final Maker NEW = CourtMatcher::new, RICH = Scene::rich, STUCK = Scene::stuck;

    private static final Probe[] PROBES = {
        Scene::probeBestOnes, Scene::probeDaysAndKinds, Scene::probeRooms, Scene::probePairs, Scene::probeRules,
        Scene::probeKept, Scene::probeTape, Scene::probeImage};
    private static final Map<Maker, List<List<Long>>> KNOWN = new HashMap<>();

    // ---- courts

    static void due(String call, long got, long want) {
        Check.due(call, got, want);
    }

    static void test(String name, Runnable body) {
        Check.test(name, body);
    }

    static void feed(CourtMatcher x, String bytes) {
        for (int i = 0; i < bytes.length(); i++) {
            x.feed(bytes.charAt(i));
        }
    }

    static int text(CourtMatcher x, int rule, String bytes) {
        feed(x, bytes);
        return x.text(rule);
    }

    /** What text(0) answers of these bytes on a new object. */
    static int read(String bytes) {
        return text(new CourtMatcher(), 0, bytes);
    }

    static void row(CourtMatcher x, int sheet, int sort, long... items) {
        x.sheet(sheet, sort, items.length);
        for (int i = 0; i < items.length; i++) {
            x.put(sheet, i, items[i]);
        }
    }

    /** Judges 0 .. judges - 1 and cases 0 .. cases - 1 are IN. */
    static CourtMatcher court(int judges, int cases) {
        CourtMatcher x = new CourtMatcher();
        for (int i = 0; i < judges; i++) {
            x.here(0, i, 1);
        }
        for (int i = 0; i < cases; i++) {
            x.here(1, i, 1);
        }
        return x;
    }

    /** As many judges as rows, as many cases as columns; -1 is a BARRED PAIR. */
    static CourtMatcher court(long[][] burdens) {
        CourtMatcher x = court(burdens.length, burdens[0].length);
        for (int judge = 0; judge < burdens.length; judge++) {
            for (int matter = 0; matter < burdens[judge].length; matter++) {
                if (burdens[judge][matter] < 0) {
                    x.mark(judge, matter, 1);
                } else {
                    x.tell(judge, matter, burdens[judge][matter]);
                }
            }
        }
        return x;
    }

    /** Something of everything: an IMAGE unlike what is, ROUNDS, SHEETS of each sort, three bytes on THE TAPE. */
    static CourtMatcher rich() {
        CourtMatcher x = court(5, 3);
        text(x, 1, "5");
        x.trait(0, 4, 2, 77);
        x.tell(3, 2, 41);
        x.mark(1, 1, 1);
        x.image();
        text(x, 0, "|a*x|+q");
        text(x, 1, "r+div(9,b)");
        text(x, 2, "y+3");
        for (int i = 0; i < 8; i++) {
            x.trait(0, i, 0, i - 4);
            x.trait(0, i, 1, 2 * i - 6);
            x.trait(1, i, 0, 3 - i);
            x.trait(1, i, 1, 10 * i);
        }
        x.trait(0, 7, 2, 999);
        x.trait(1, 7, 2, -999);
        x.tell(0, 0, 4);
        x.tell(1, 0, 2);
        x.tell(0, 1, 6);
        x.tell(1, 2, LIMIT);
        x.tell(6, 6, 0);
        x.mark(2, 0, 1);
        x.mark(1, 1, 0);
        x.mark(5, 1, 1);
        x.mark(7, 7, 2);
        x.solve();
        x.here(1, 3, 1);
        x.mark(4, 3, 2);
        row(x, 0, 0, 1, 0, 2, 4, 1L << 40);
        row(x, 1, 1, 1, 0, 2, 4);
        row(x, 2, 2, 3, -7);
        feed(x, "a-b");
        return x;
    }

    /** Case 1 has no judge: there is no FULL one, no BEST one; no IMAGE, no ROUNDS. */
    static CourtMatcher stuck() {
        CourtMatcher x = court(new long[][] {{3, -1}, {2, -1}});
        row(x, 0, 0, 0, 1);
        row(x, 1, 0, 5, 6, 7);
        row(x, 2, 2, 1);
        x.mark(2, 2, 2);
        return x;
    }

    // ---- what changes nothing

    /** The call answers this, and the object answers all that can be asked as one that wasn't called so. */
    static void refused(String call, Maker maker, Call asked, long want) {
        alike(call, maker, () -> {
            CourtMatcher x = maker.make();
            due(call, asked.on(x), want);
            return x;
        });
    }

    /** What these two make answers the same, whatever is asked. */
    static void alike(String call, Maker maker, Maker other) {
        if (!KNOWN.containsKey(maker)) {
            List<List<Long>> known = new ArrayList<>();
            for (Probe probe : PROBES) {
                known.add(answers(probe, maker.make()));
            }
            KNOWN.put(maker, known);
        }
        for (int i = 0; i < PROBES.length; i++) {
            List<Long> was = KNOWN.get(maker).get(i);
            List<Long> is = answers(PROBES[i], other.make());
            int at = 0;
            while (at < was.size() && was.get(at).equals(is.get(at))) {
                at++;
            }
            Check.holds(call + ": answer " + at + " of probe " + i + " stays", at == was.size());
        }
    }

    /** A call that changes something: what is asked behind it is no other for what was asked ahead of it. */
    static void follows(String call, Maker maker, Call change) {
        alike(call, () -> {
            CourtMatcher x = maker.make();
            change.on(x);
            return x;
        }, () -> {
            CourtMatcher x = maker.make();
            x.total();
            x.kind(0, 0);
            x.next(11, 0);
            x.days(8);
            x.fair(1);
            x.why(3, 3, 0);
            x.lack(0);
            change.on(x);
            return x;
        });
    }

    /** A call that only asks: whatever it answers, all is as it was. */
    static void leaves(String call, Maker maker, Call asked) {
        refused(call, maker, x -> asked.on(x) * 0, 0);
    }

    private static List<Long> answers(Probe probe, CourtMatcher x) {
        List<Long> answers = new ArrayList<>();
        probe.ask(x, answers);
        return answers;
    }

    private static void probeBestOnes(CourtMatcher x, List<Long> answers) {
        for (int what = 0; what < 8; what++) {
            answers.add((long) x.count(what));
        }
        answers.add(x.total());
        answers.add((long) x.many());
        for (int matter = 0; matter < 8; matter++) {
            for (int i = 0; i < 3; i++) {
                answers.add((long) x.best(i, matter));
            }
            answers.add(x.without(0, matter));
            answers.add(x.without(1, matter));
            answers.add(x.days(1 + matter));
        }
        for (int i = 0; i < 12; i++) {
            for (int what = -1; what < 8; what++) {
                answers.add(x.next(i, what));
            }
        }
        for (int what = 0; what < 3; what++) {
            answers.add(x.fair(what));
            answers.add((long) x.lack(what));
            for (int sheet = 0; sheet < 4; sheet++) {
                answers.add(x.tells(sheet, what));
            }
        }
    }

    private static void probeDaysAndKinds(CourtMatcher x, List<Long> answers) {
        for (int i = 0; i < 8; i++) {
            for (int j = 0; j < 8; j++) {
                answers.add((long) x.day(i, j));
                answers.add((long) x.kind(i, j));
                answers.add((long) x.why(i, j, 0));
                answers.add((long) x.why(i, j, 3));
            }
        }
    }

    private static void probeRooms(CourtMatcher x, List<Long> answers) {
        for (int i = 0; i < 64; i++) {
            answers.add(x.room(i / 8, i % 8, 0));
            answers.add(x.room(i / 8, i % 8, 1));
        }
    }

    private static void probePairs(CourtMatcher x, List<Long> answers) {
        for (int i = 0; i < 64; i++) {
            answers.add(x.burden(i / 8, i % 8));
            answers.add((long) x.open(i / 8, i % 8));
        }
        for (int i = 0; i < 64; i++) {
            answers.add((long) x.mark(i / 8, i % 8, 0));
        }
        for (int i = 0; i < 8; i++) {
            answers.add((long) x.here(0, i, 0));
            answers.add((long) x.here(1, i, 0));
        }
    }

    private static void probeRules(CourtMatcher x, List<Long> answers) {
        for (int rule = 0; rule < 4; rule++) {
            for (int what = 0; what < 5; what++) {
                answers.add((long) x.told(rule, what));
            }
            for (int i = 0; i < 64; i++) {
                answers.add(x.value(rule, i / 8, i % 8));
            }
        }
        for (int i = 0; i < 48; i++) {
            answers.add((long) x.trait(i / 24, i / 3 % 8, i % 3, 0));
        }
    }

    private static void probeKept(CourtMatcher x, List<Long> answers) {
        for (int i = 0; i < 8; i++) {
            for (int what = 0; what < 6; what++) {
                answers.add(x.round(i, what));
            }
            for (int who = 0; who < 16; who++) {
                answers.add(x.price(i, who / 8, who % 8));
            }
        }
        for (int sheet = 0; sheet < 4; sheet++) {
            for (int i = 0; i <= 40; i++) {
                answers.add(x.item(sheet, i));
            }
            answers.add((long) x.put(sheet, 0, 1L << 40 | 1 << 20));
            answers.add(x.item(sheet, 0));
        }
    }

    private static void probeTape(CourtMatcher x, List<Long> answers) {
        answers.add((long) x.text(3));
        for (int i = 0; i < 64; i++) {
            answers.add(x.value(3, i / 8, i % 8));
        }
        answers.add((long) x.count(7));
    }

    private static void probeImage(CourtMatcher x, List<Long> answers) {
        answers.add((long) x.back());
        for (int i = 0; i < 64; i++) {
            answers.add(x.burden(i / 8, i % 8));
            answers.add((long) x.mark(i / 8, i % 8, 0));
        }
        for (int rule = 0; rule < 4; rule++) {
            answers.add((long) x.told(rule, 0));
            answers.add(x.value(rule, 1, 2));
        }
        for (int i = 0; i < 48; i++) {
            answers.add((long) x.trait(i / 24, i / 3 % 8, i % 3, 0));
        }
        for (int i = 0; i < 8; i++) {
            answers.add((long) x.here(0, i, 0));
            answers.add((long) x.here(1, i, 0));
        }
    }
}
