/** Terms 2, promises 8 to 13: each bound from inside and from outside, each refusal, and that it changes nothing. */
public final class BoundsOfRulesTest extends Scene {
    private static final String TEN = "a+a+a+a+a+a+a+a+a+a+", ELEVEN = TEN + "a+", TWELVE = ELEVEN + "a+";

    /** Of all bytes alone, or of these behind others, what text(0) answers. */
    private static int readByte(String ahead, int letter) {
        CourtMatcher x = new CourtMatcher();
        feed(x, ahead);
        x.feed(letter);
        return x.text(0);
    }

    private static String times(String s, int n) {
        StringBuilder all = new StringBuilder();
        for (int i = 0; i < n; i++) {
            all.append(s);
        }
        return all.toString();
    }

    private static CourtMatcher fullTape() {
        CourtMatcher x = rich();
        for (int i = 4; i <= 60; i++) {
            x.feed(i < 8 ? '+' : i == 8 ? '7' : ' ');
        }
        return x;
    }

    private static void feeding() {
        test("8 feed: bytes 0 and 255 are the least and the greatest", () -> {
            CourtMatcher x = new CourtMatcher();
            due("feed(0)", x.feed(0), 1);
            due("feed(255)", x.feed(255), 2);
            due("bytes", x.count(7), 2);
        });
        test("8 feed: -1 and 256, BAD", () -> {
            for (int letter : new int[] {-1, 256, 257, -256, 353, LOW, HIGH}) {
                refused("feed(" + letter + ")", RICH, x -> x.feed(letter), BAD);
            }
        });
        test("terms 2, 8 feed: the 60th byte finds room, the 61st is FULL", () -> {
            CourtMatcher x = new CourtMatcher();
            for (int i = 1; i <= 60; i++) {
                due("byte " + i, x.feed(i == 60 ? '7' : ' '), i);
            }
            due("the 61st", x.feed('8'), FULL);
            due("bytes", x.count(7), 60);
            due("the 60th is read", x.text(0), 1);
            due("VALUE", x.value(0, 0, 0), 7);
        });
        test("8 feed: FULL changes nothing", () ->
            refused("the 61st", FULL_TAPE, x -> x.feed('a'), FULL));
        test("8 feed: BAD is named ahead of FULL", () -> {
            refused("feed(256)", FULL_TAPE, x -> x.feed(256), BAD);
            refused("feed(-1)", FULL_TAPE, x -> x.feed(-1), BAD);
        });
        test("8 feed: behind text() there is room for 60 again", () -> {
            CourtMatcher x = fullTape();
            x.text(3);
            for (int i = 1; i <= 60; i++) {
                due("byte " + i, x.feed(' '), i);
            }
            due("the 61st", x.feed(' '), FULL);
        });
    }

    // ---- tokens

    private static final String NAMES = "abcxyzqrs";

    private static void tokens() {
        test("terms 2: each byte as the first and only one", () -> {
            for (int letter = 0; letter < 256; letter++) {
                int want = -100;
                if (letter == 'p') {
                    want = RING;
                } else if (letter >= '0' && letter <= '9' || NAMES.indexOf(letter) >= 0) {
                    want = 1;
                } else if (" -(|".indexOf(letter) >= 0) {
                    want = -101;
                }
                due("byte " + letter, readByte("", letter), want);
            }
        });
        test("terms 2: each byte behind a NAME", () -> {
            for (int letter = 0; letter < 256; letter++) {
                int want = -101;
                if (letter == ' ') {
                    want = 1;
                } else if (letter == '+' || letter == '-' || letter == '*' || letter == '<') {
                    want = -102;
                } else if (letter >= 'a' && letter <= 'z') {
                    want = -100;
                }
                due("byte " + letter, readByte("a", letter), want);
            }
        });
        test("terms 2: each byte behind a NUMBER", () -> {
            for (int letter = 0; letter < 256; letter++) {
                int want = -101;
                if (letter == ' ' || letter >= '0' && letter <= '9') {
                    want = 1;
                } else if (letter == '+' || letter == '-' || letter == '*' || letter == '<') {
                    want = -102;
                }
                due("byte " + letter, readByte("7", letter), want);
            }
        });
        test("terms 2: of WORDS of two letters there is none", () -> {
            for (int i = 0; i < 26 * 26; i++) {
                String word = "" + (char) ('a' + i / 26) + (char) ('a' + i % 26);
                due(word, read(word), -100);
                due(word + " behind a sign", read("1+" + word + "(1,2)"), -102);
            }
        });
        test("terms 2: of WORDS of three letters there are min, max, div, mod alone", () -> {
            CourtMatcher x = null;
            for (int i = 0; i < 26 * 26 * 26; i++) {
                if (i % 50 == 0) {
                    x = new CourtMatcher();
                }
                String word = "" + (char) ('a' + i / 676) + (char) ('a' + i / 26 % 26) + (char) ('a' + i % 26);
                boolean is = word.equals("min") || word.equals("max") || word.equals("div") || word.equals("mod");
                due(word, text(x, 0, word + "(7,2)"), is ? 3 : -100);
            }
        });
        test("terms 2: WORDS are as long as can be", () -> {
            for (String word : new String[] {"mint", "amin", "minmax", "divmod", "abc", "aa", "zz", "minn", "mma", "abcd"}) {
                due(word, read(word + "(1,2)"), -100);
            }
            due("a then 1", read("a1"), -101);
            due("min then 2", read("min2(1,2)"), -103);
            due("min then A", read("minA(1,2)"), -103);
            due("1 then a", read("1a"), -101);
        });
        test("terms 2: NUMBERS have four digits at most, 0 ahead, too", () -> {
            due("0", read("0"), 1);
            due("9999", read("9999"), 1);
            due("0000", read("0000"), 1);
            due("10000", read("10000"), -100);
            due("00000", read("00000"), -100);
            due("00001", read("1+00001"), -102);
            due("behind blanks", read("1+  12345"), -104);
            due("60 digits", read(times("1", 60)), -100);
            due("4294967297", read("4294967297"), -100);
            due("four and four", read("1234 5678"), -105);
            due("four and four and a sign", read("1234+5678"), 3);
        });
        test("terms 2: VALUE of NUMBERS, 0 to 9999, 0 ahead", () -> {
            String[] numbers = {"0", "00", "0000", "1", "0001", "0099", "10", "999", "1000", "9999", "0123"};
            long[] want = {0, 0, 0, 1, 1, 99, 10, 999, 1000, 9999, 123};
            for (int i = 0; i < want.length; i++) {
                CourtMatcher x = new CourtMatcher();
                text(x, 0, numbers[i]);
                due(numbers[i], x.value(0, 0, 0), want[i]);
            }
        });
        test("terms 2: blanks may stand between all TOKENS, none need", () -> {
            String[] texts = {"min(a,|b|)<-c?(1+x)*2:mod(y,3)-z",
                " min ( a , | b | ) < - c ? ( 1 + x ) * 2 : mod ( y , 3 ) - z "};
            for (String bytes : texts) {
                due(bytes, read(bytes), 17);
            }
            due("blanks ahead", read("   a"), 1);
            due("blanks behind", read("a   "), 1);
        });
        test("terms 2: a blank ends a WORD, a NUMBER", () -> {
            due("1 2", read("1 2"), -102);
            due("a b", read("a b"), -102);
            due("mi n(1,2)", read("mi n(1,2)"), -100);
            due("m in(1,2)", read("m in(1,2)"), -100);
            due("12 345", read("12 345"), -103);
        });
        test("terms 2: only 32 is a blank", () -> {
            for (int letter : new int[] {0, 8, 9, 10, 11, 12, 13, 31, 33, 127, 128, 160, 255}) {
                due("ahead " + letter, read((char) letter + "a"), -100);
                due("behind " + letter, read("a " + (char) letter), -102);
            }
        });
        test("terms 2: a byte that begins no TOKEN is a FAULT where it stands", () -> {
            for (char letter : "AZ;!\"#$%&'./=>@[\\]^_`{}~".toCharArray()) {
                due("'" + letter + "'", read("a+" + letter), -102);
                due("behind '" + letter + "'", read("(a " + letter), -103);
            }
        });
    }

    // ---- grammar

    private static void faults(String... texts) {
        for (String marked : texts) {
            int place = marked.indexOf('^');
            String bytes = marked.substring(0, place) + marked.substring(place + 1);
            CourtMatcher x = new CourtMatcher();
            text(x, 0, "3");
            due("'" + marked + "'", text(x, 0, bytes), -100 - place);
            due("THE TAPE by '" + marked + "'", x.count(7), 0);
            due("the RULE by '" + marked + "'", x.value(0, 0, 0), 3);
        }
    }

    /** In these texts ^ stands ahead of the FAULT. */
    private static void grammar() {
        test("terms 2, FAULT: the empty TAPE, one of blanks alone", () -> {
            faults("^", " ^", "    ^");
            due("60 blanks", read(times(" ", 60)), -160);
        });
        test("terms 2, FAULT: THE TAPE's size, if it ends too early", () -> {
            faults("a+^", "a- ^", "a*^", "-^", "(^", "(a^", "|^", "|a^", "min^", "min(^", "min(a^", "min(a,^", "min(a,b^",
                "a<^", "a<b^", "a<b?^", "a<b?c^", "a<b?c:^", "a<b?c:(x^", "a<b ^", "min ^", "((((a))) ^");
            due("60 bytes", read(times(" ", 58) + "a+"), -160);
        });
        test("terms 2, FAULT: where a FACTOR must stand", () -> faults("^+a", "^*a", "^)", "^,", "^<a", "^?", "^:", "a+^+b",
            "a*^*b", "a-^*b", "a*^+b", "(^)", "|^+a|", "min(^,a)", "min(a,^)", "a<^<b", "a<b?^:c", "a<b?c:^)", "-^+a", "(^*a)",
            "a+^)", "a<^?b:c", "min(^)", "mod(a,^,b)"));
        test("terms 2, FAULT: where no FACTOR may stand", () -> faults("a ^b", "a^(b)", "(a)^b", "(a)^(b)", "1^min(a,b)",
            "min(a,b)^2", "|a|^b", "a ^1", "a^|b|", "|a|^|", "(a ^b)", "|a ^b|", "min(a ^b,c)", "a<b ^c", "a<b?c ^x:y",
            "a<b?c:x ^y"));
        test("terms 2, FAULT: brackets and bars that don't belong", () -> faults("a^)", "(a)^)", "(a^|", "|a^)", "(|a^)|",
            "|(a^|)", "||a|^", "|a|^b|", "min(a,b^|", "|min(a,b^|)", "min(|a^,b|)", "(a<b?c^)"));
        test("terms 2, FAULT: min and the like want ( EXPR , EXPR )", () -> faults("min^", "min ^a", "max^|a|", "div^)", "mod^,",
            "min(a^)", "max(a,b^,c)", "div(a^", "mod(a^;b)", "min^+a", "(min^)", "div(a^|", "min ^min(a,b)", "mod^-(a,b)"));
        test("terms 2, FAULT: a comma, a colon, a question where none belongs", () -> faults("a^,b", "(a^,b)", "|a^,b|", "a^:b",
            "a^?b:c", "(a^:b)", "min(a^:b)", "a<b^:c", "a<b^,c", "a<b?c^,x", "a<b?c:x^:y", "a<b?c:x^?y", "a<b?c^?x:y",
            "min(a,b<c?x^,y)", "a<b?(c^:x)", "a<b?min(c^:x)"));
        test("terms 2, FAULT: SUM < SUM must be a choice, and none is a SUM", () -> faults("a<b^", "(a<b^)", "|a<b^|",
            "min(a<b^,c)", "a<b^<c?x:y", "a<b?c<x^:y", "a<b+c^", "1+(a<b^)", "a<b?c:x<y^"));
        test("terms 2, FAULT: a WORD that is none such, at its first byte", () -> faults("^k", "a+^dd", "(^xa)", "min(a,^maxx(b,c))",
            "a<^bb?c:x", "-  ^mi(a,b)", "|^ab|", "a+b*^e"));
        test("terms 2, FAULT: the first one from left to right", () -> faults("^k+12345", "a+^12345+k", "a+^)k", "(((((^((k", "a ^b;"));
    }

    private static void shapes() {
        test("terms 2: a choice in each of its three places, in brackets, in bars, in functions", () -> {
            CourtMatcher x = new CourtMatcher();
            String[] texts = {"1<2?1<2?5:6:7", "1<2?2<1?5:6:7", "2<1?5:1<2?6:7", "2<1?5:2<1?6:7", "(1<2?0:1)<1?8:9",
                "|1<2?0-3:4|", "min(1<2?3:4,2<1?1:2)", "1+1<1*3?4-1:0", "-(1<2?5:6)", "2<(1<2?3:0)?1:0", "1<2?1+1:9+9"};
            long[] want = {5, 6, 6, 7, 8, 3, 2, 3, -5, 1, 2};
            for (int i = 0; i < texts.length; i++) {
                due("'" + texts[i] + "' reads", text(x, 0, texts[i]) > 0 ? 1 : 0, 1);
                due("'" + texts[i] + "'", x.value(0, 0, 0), want[i]);
            }
        });
        test("terms 2: * ahead of + and -, - FACTOR ahead of *, from left to right", () -> {
            CourtMatcher x = new CourtMatcher();
            String[] texts = {"1+2*3", "2*3+1", "9-3-2", "9-3+2", "2-3*4-5", "-2*3", "2*-3", "2--3", "-2-3", "--2", "---2",
                "-(2-5)", "-|0-4|", "||0-2|-5|", "|2|*|0-3|", "2*3*4", "-2*-3", "1-2*3*-1"};
            long[] want = {7, 7, 4, 8, -15, -6, -6, 5, -5, 2, -2, 3, -4, 3, 6, 24, 6, 7};
            for (int i = 0; i < texts.length; i++) {
                due("'" + texts[i] + "' reads", text(x, 0, texts[i]) > 0 ? 1 : 0, 1);
                due("'" + texts[i] + "'", x.value(0, 0, 0), want[i]);
            }
        });
    }

    // ---- PARTS and what is open

    private static void parts() {
        test("terms 2, PARTS: what counts, and what doesn't", () -> {
            String[] texts = {"7", "a", "-a", "--a", "(a)", "((a))", "|a|", "||a||", "a+b", "a-b", "a*b", "min(a,b)", "max(a,b)",
                "div(a,b)", "mod(a,b)", "a<b?c:x", "(a+b)*-|c|", "s", "q+r"};
            int[] want = {1, 1, 2, 3, 1, 1, 2, 3, 3, 3, 3, 3, 3, 3, 3, 5, 7, 1, 3};
            for (int i = 0; i < texts.length; i++) {
                due(texts[i], read(texts[i]), want[i]);
            }
        });
        test("terms 2, PARTS: the 24th of each kind fits", () -> {
            for (String last : new String[] {"-a", "-1", "|1|", "|a|"}) {
                due(last, read(ELEVEN + last), 24);
            }
            due("+", read("-" + ELEVEN + "a"), 24);
            due("-", read("-" + TEN + "a-a"), 24);
            due("*", read("-" + TEN + "a*a"), 24);
            due("(", read("-" + ELEVEN + "(((a)))"), 24);
            for (String word : new String[] {"min", "max", "div", "mod"}) {
                due(word, read("-" + TEN + word + "(1,2)"), 24);
            }
            due("<", read("-" + TEN.substring(2) + "a<b?c:x"), 24);
            due("24 signs and NAMES", read(times("-", 23) + "a"), 24);
        });
        test("terms 2, FAULT: the 25th PART, a NUMBER, a NAME, a sign ahead", () -> {
            due("24 PARTS stand ahead", TWELVE.length(), 24);
            for (String last : new String[] {"1", "a", "q", "-a", "12345", "dd"}) {
                due(last, read(TWELVE + last), -124);
                due(last + " behind blanks", read(TWELVE + "  " + last), -126);
            }
        });
        test("terms 2, FAULT: the 25th PART, a pair of bars at its first one", () -> {
            due("|a|", read(TWELVE + "|a|"), -124);
            due("(|a|)", read(TWELVE + "(|a|)"), -125);
            due("||a||", read(ELEVEN + "||a||"), -124);
        });
        test("terms 2, FAULT: the 25th PART, min max div mod", () -> {
            for (String word : new String[] {"min", "max", "div", "mod"}) {
                due(word, read(TWELVE + word + "(1,2)"), -124);
                due(word + " behind two signs", read(ELEVEN + "--" + word + "(1,2)"), -124);
                due(word + " as the 24th, 1 as the 25th", read(ELEVEN + "-" + word + "(1,2)"), -127);
                due(word + " as the 23rd, 2 as the 25th", read(ELEVEN + word + "(1,2)"), -128);
            }
        });
        test("terms 2, FAULT: the 25th PART, + - * between", () -> {
            for (String sign : new String[] {"+", "-", "*"}) {
                due(sign, read(ELEVEN + "-a" + sign + "a"), -124);
                due(sign + " behind blanks", read(ELEVEN + "-a  " + sign + "a"), -126);
            }
        });
        test("terms 2, FAULT: the 25th PART, <", () -> due("<", read(ELEVEN + "-a<1?2:3"), -124));
        test("terms 2, FAULT: brackets, commas, ? and : are no PARTS", () -> {
            due("a bracket behind 24", read(ELEVEN + "(-a)"), 24);
            due("a bracket ahead of the 25th", read(TWELVE + "(a)"), -125);
            due("a byte that begins none behind 24", read(ELEVEN + "-a;"), -124);
            due(": behind 24", read(TEN.substring(2) + "a<b?-c:x"), 24);
        });
        test("9 text: 24 PARTS are kept", () -> {
            CourtMatcher x = new CourtMatcher();
            due("text", text(x, 0, ELEVEN + "-5"), 24);
            due("told", x.told(0, 0), 24);
            x.trait(0, 0, 0, 3);
            due("VALUE", x.value(0, 0, 0), 28);
        });
    }

    private static final String[] OPENS = {"(", "|", "min("}, CLOSES = {")", "|", ",2)"};

    private static void open() {
        test("terms 2: five brackets and bars of all sorts are open at a time", () -> {
            for (int i = 0; i < 243; i++) {
                String bytes = "1";
                int parts = 1;
                for (int n = 0, rest = i; n < 5; n++, rest /= 3) {
                    bytes = OPENS[rest % 3] + bytes + CLOSES[rest % 3];
                    parts += rest % 3;
                }
                due(bytes, read(bytes), parts);
            }
        });
        test("terms 2, FAULT: the sixth bracket or bar of all sorts", () -> {
            for (int i = 0; i < 729; i++) {
                String bytes = "";
                for (int n = 0, rest = i; n < 6; n++, rest /= 3) {
                    bytes += OPENS[rest % 3];
                }
                due(bytes, read(bytes + "1"), -100 - (bytes.length() - 1));
                due(bytes + " alone", read(bytes), -100 - (bytes.length() - 1));
            }
        });
        test("terms 2: in the second half of a function its bracket is open still", () -> {
            due("five", read("min(1,min(1,min(1,min(1,min(1,2)))))"), 11);
            due("six", read("min(1,min(1,min(1,min(1,min(1,(2))))))"), -130);
        });
        test("terms 2: those that are closed aren't open any more", () -> {
            due("brackets", read("(((((1)))))+(((((2)))))"), 3);
            due("bars", read("|||||1|||||*|||||2|||||"), 13);
            due("functions", read("max(((((1)))),((((2)))))"), 3);
            due("the sixth behind them", read("(((((1)))))+((((((2))))))"), -117);
        });
        test("terms 2: those of a FAULT are forgotten", () -> {
            CourtMatcher x = new CourtMatcher();
            due("five open", text(x, 0, "((((("), -105);
            due("five more", text(x, 0, "(((((7)))))"), 1);
            due("24 PARTS", text(x, 0, TWELVE), -124);
            due("24 more", text(x, 0, ELEVEN + "-1"), 24);
        });
    }

    // ---- text

    private static CourtMatcher ring() {
        CourtMatcher x = rich();
        x.text(3);
        return x;
    }

    private static CourtMatcher ofWeights() {
        CourtMatcher x = rich();
        x.text(3);
        x.empty(0);
        x.empty(1);
        text(x, 3, TEN.substring(2) + "1");
        text(x, 2, "s+s");
        return x;
    }

    private static final Maker RINGS = BoundsOfRulesTest::ring, WEIGHTS = BoundsOfRulesTest::ofWeights;
    private static final Maker FULL_TAPE = BoundsOfRulesTest::fullTape;

    /** THE TAPE is empty when this comes, and empty again by it; all else stays. */
    private static void keeps(String call, Maker maker, String bytes, int rule, int want) {
        due("bytes ahead of " + call, maker.make().count(7), 0);
        refused(call, maker, x -> text(x, rule, bytes), want);
    }

    private static void text() {
        test("9 text: RULES 0 and 3 are the first and the last", () -> {
            CourtMatcher x = new CourtMatcher();
            due("text(0)", text(x, 0, "1+2"), 3);
            due("text(3)", text(x, 3, "-4"), 2);
            due("VALUE of 0", x.value(0, 7, 7), 3);
            due("VALUE of 3", x.value(3, 7, 7), -4);
            due("VALUE of 1", x.value(1, 7, 7), 0);
        });
        test("9 text: no such RULE, BAD, and THE TAPE stays", () -> {
            for (int rule : NO_RULE) {
                refused("text(" + rule + ")", RICH, x -> x.text(rule), BAD);
            }
            CourtMatcher x = new CourtMatcher();
            feed(x, "a+");
            due("BAD ahead of a FAULT", x.text(4), BAD);
            due("THE TAPE stays", x.count(7), 2);
            feed(x, "1");
            due("and is read", x.text(0), 3);
        });
        test("9 text: THE TAPE is empty behind it", () -> {
            CourtMatcher x = new CourtMatcher();
            due("text", text(x, 0, "1"), 1);
            due("bytes", x.count(7), 0);
            due("the empty one", x.text(0), -100);
            due("the next byte is the first", x.feed('a'), 1);
        });
        test("9 text: by a FAULT THE TAPE is empty, the RULE stays as it was", () -> {
            keeps("FAULT in RULE 0", RINGS, "a+", 0, -102);
            keeps("FAULT in RULE 3", RINGS, ";", 3, -100);
        });
        test("9 text: of longer TEXTS that were there before nothing is left", () -> {
            CourtMatcher x = new CourtMatcher();
            String[] longer = {"1+2+3+4", "-1-2-3-4-5", "1*2*|3|*4*q", "div(9,2+0)+min(3,4)"};
            for (String first : longer) {
                for (int i = 0; i < 3; i++) {
                    text(x, 0, first);
                }
                text(x, 0, "5");
                due("the first, behind " + first, text(x, 0, "1<2?7:8"), 5);
                due("VALUE", x.value(0, 0, 0), 7);
                due("names", x.told(0, 2), 0);
                due("the second, behind " + first, text(x, 0, "2<1?7:8"), 5);
                due("VALUE", x.value(0, 0, 0), 8);
            }
        });
        test("9 text: a TEXT takes the place of another one", () -> {
            CourtMatcher x = new CourtMatcher();
            text(x, 0, "q+r+s+1");
            due("shorter", text(x, 0, "5"), 1);
            due("PARTS", x.told(0, 0), 1);
            due("names", x.told(0, 2), 0);
            due("VALUE", x.value(0, 0, 0), 5);
        });
        test("terms 2, 9 text: a RULE that names itself at once, RING", () -> {
            for (int rule = 0; rule < 4; rule++) {
                CourtMatcher x = new CourtMatcher();
                due("RULE " + rule, text(x, rule, "1+" + "pqrs".charAt(rule)), RING);
                due("it stays EMPTY", x.told(rule, 0), 0);
            }
            due("also where that isn't looked at", read("1<2?3:p"), RING);
            keeps("RING", RINGS, "-p", 0, RING);
        });
        test("terms 2, 9 text: through one, through two, through three others, RING", () -> {
            CourtMatcher x = new CourtMatcher();
            text(x, 0, "q");
            due("through one", text(x, 1, "p"), RING);
            text(x, 1, "r");
            due("through two", text(x, 2, "p"), RING);
            text(x, 2, "s");
            due("through three", text(x, 3, "p"), RING);
            due("through two", text(x, 3, "q"), RING);
            due("through one", text(x, 3, "r"), RING);
            due("no RING", text(x, 3, "7"), 1);
            due("VALUE", x.value(0, 0, 0), 7);
            keeps("RING through q", RINGS, "p", 2, RING);
        });
        test("terms 2, 9 text: one that was named but is EMPTY now makes no RING", () -> {
            CourtMatcher x = new CourtMatcher();
            text(x, 0, "q");
            x.empty(0);
            due("q names p", text(x, 1, "p"), 1);
            due("p names q", text(x, 0, "q"), RING);
            due("two ways to one are none", text(x, 0, "s+s*r"), 5);
            due("r names s", text(x, 2, "s"), 1);
        });
        test("terms 2, 9 text: WEIGHT 60 fits, 61 is FULL, of the RULE itself", () -> {
            CourtMatcher x = ofWeights();
            due("WEIGHT of r", x.told(2, 1), 41);
            due("19 PARTS and 41", text(x, 1, "r+1+1+1+1+1+1+1+1+1"), 19);
            due("WEIGHT 60", x.told(1, 1), 60);
            x.empty(1);
            due("20 PARTS and 41", text(x, 1, "-r+1+1+1+1+1+1+1+1+1"), FULL);
            due("EMPTY still", x.told(1, 0), 0);
            keeps("FULL", WEIGHTS, "-r+1+1+1+1+1+1+1+1+1", 0, FULL);
        });
        test("terms 2, 9 text: WEIGHT 60 fits, 61 is FULL, of one that names the RULE", () -> {
            CourtMatcher x = new CourtMatcher();
            due("p", text(x, 0, "q+q"), 3);
            text(x, 2, "1+1+1+1");
            due("q: 21 and 7", text(x, 1, "r" + times("+1", 10)), 21);
            due("WEIGHT of p", x.told(0, 1), 59);
            due("q: 22 and 7", text(x, 1, "-r" + times("+1", 10)), FULL);
            due("q stays", x.told(1, 0), 21);
            due("r: 8", text(x, 2, "-1+1+1+1"), FULL);
            due("r stays", x.told(2, 0), 7);
            due("s: 1 more for p alone", text(x, 3, "1"), 1);
            due("p: 4", text(x, 0, "-q+q"), 4);
            due("WEIGHT of p", x.told(0, 1), 60);
            due("p: 5", text(x, 0, "--q+q"), FULL);
            due("p stays", x.told(0, 0), 4);
        });
        test("terms 2, 9 text: WEIGHT 60 fits, 61 is FULL, through two others", () -> {
            CourtMatcher x = new CourtMatcher();
            text(x, 0, "q" + times("+1", 9));
            text(x, 1, "r" + times("+1", 9));
            text(x, 2, "s" + times("+1", 9));
            due("WEIGHT of p", x.told(0, 1), 57);
            due("s: 3", text(x, 3, "1+1"), 3);
            due("WEIGHT of p", x.told(0, 1), 60);
            due("s: 4", text(x, 3, "-1+1"), FULL);
            due("s stays", x.value(3, 0, 0), 2);
            due("s: 2", text(x, 3, "-1"), 2);
            due("s: 3 again", text(x, 3, "1+2"), 3);
        });
        test("9 text: a FAULT is named ahead of RING and FULL", () -> {
            keeps("ahead of RING", RINGS, "p+", 0, -102);
            keeps("ahead of FULL", WEIGHTS, "r+r+", 0, -104);
        });
        test("9 text: RING is named ahead of FULL", () -> {
            CourtMatcher x = new CourtMatcher();
            text(x, 1, "p+p");
            text(x, 2, ELEVEN + "1");
            due("FULL", text(x, 0, "r+r+r"), FULL);
            due("RING", text(x, 0, "r+r+q"), RING);
            due("p stays", x.told(0, 0), 0);
        });
    }

    private static void empty() {
        test("10 empty: RULES 0 and 3 are the first and the last", () -> {
            CourtMatcher x = new CourtMatcher();
            text(x, 0, "1");
            text(x, 3, ELEVEN + "-a");
            due("empty(0)", x.empty(0), 1);
            due("empty(3)", x.empty(3), 24);
            due("told", x.told(0, 0) + x.told(3, 0), 0);
        });
        test("10 empty: one that is EMPTY had 0", () -> {
            CourtMatcher x = new CourtMatcher();
            due("EMPTY", x.empty(2), 0);
            text(x, 2, "1+1");
            due("3 PARTS", x.empty(2), 3);
            due("EMPTY again", x.empty(2), 0);
        });
        test("10 empty: no such RULE, BAD", () -> {
            for (int rule : NO_RULE) {
                refused("empty(" + rule + ")", RICH, x -> x.empty(rule), BAD);
            }
        });
        test("10 empty: THE TAPE stays", () -> {
            CourtMatcher x = new CourtMatcher();
            feed(x, "12");
            x.empty(0);
            due("bytes", x.count(7), 2);
        });
        test("10 empty: others name it still; its VALUE, its WEIGHT are 0", () -> {
            CourtMatcher x = new CourtMatcher();
            text(x, 1, "5+5");
            text(x, 0, "q+1");
            due("WEIGHT", x.told(0, 1), 6);
            x.empty(1);
            due("WEIGHT", x.told(0, 1), 3);
            due("VALUE", x.value(0, 0, 0), 1);
            due("names", x.told(0, 2), 2);
            due("named by", x.told(1, 3), 1);
        });
    }

    private static void told() {
        test("11 told: what 0 to 4", () -> {
            CourtMatcher x = new CourtMatcher();
            text(x, 0, "q+1");
            text(x, 1, "-s");
            text(x, 3, "|5|");
            int[][] want = {{3, 7, 2, 0, 10}, {2, 4, 8, 1, 8}, {0, 0, 0, 0, 0}, {2, 2, 0, 2, 0}};
            for (int rule = 0; rule < 4; rule++) {
                for (int what = 0; what < 5; what++) {
                    due("told(" + rule + ", " + what + ")", x.told(rule, what), want[rule][what]);
                }
            }
        });
        test("11 told: what -1 and 5, BAD", () -> {
            for (int what : new int[] {-1, 5, 6, LOW, HIGH}) {
                for (int rule = 0; rule < 4; rule++) {
                    int of = rule;
                    refused("told(" + rule + ", " + what + ")", RICH, x -> x.told(of, what), BAD);
                }
            }
        });
        test("11 told: no such RULE, BAD", () -> {
            for (int rule : NO_RULE) {
                for (int what = 0; what < 5; what++) {
                    int of = what;
                    refused("told(" + rule + ", " + what + ")", RICH, x -> x.told(rule, of), BAD);
                }
            }
        });
        test("11 told: EMPTY, 0, but for who names it", () -> {
            CourtMatcher x = new CourtMatcher();
            text(x, 0, "r");
            text(x, 3, "r*r");
            int[] want = {0, 0, 0, 9, 0};
            for (int what = 0; what < 5; what++) {
                due("told(2, " + what + ")", x.told(2, what), want[what]);
            }
        });
        test("11 told: bits of RULES 0 to 3, each once", () -> {
            CourtMatcher x = new CourtMatcher();
            text(x, 1, "p+p+r+s+s");
            due("names", x.told(1, 2), 13);
            due("through others", x.told(1, 4), 13);
            due("named by", x.told(0, 3) * 100 + x.told(2, 3) * 10 + x.told(3, 3), 222);
            text(x, 0, "r");
            text(x, 2, "s");
            due("named by two", x.told(3, 3), 6);
            due("comes to name", x.told(0, 4), 12);
        });
        test("11 told: WEIGHT counts a RULE for each NAME of it", () -> {
            CourtMatcher x = new CourtMatcher();
            text(x, 3, "1+1");
            text(x, 2, "s*s");
            text(x, 1, "r-s");
            due("r", x.told(2, 1), 9);
            due("q", x.told(1, 1), 15);
            text(x, 0, "q+q");
            due("p", x.told(0, 1), 33);
        });
    }

    // ---- VALUES

    private static void value(String bytes, long want) {
        CourtMatcher x = new CourtMatcher();
        due("'" + bytes + "' reads", text(x, 0, bytes) > 0 ? 1 : 0, 1);
        due("'" + bytes + "'", x.value(0, 0, 0), want);
    }

    private static final String MOST = "1000*1000*1000", LEAST = "1000*1000*-1000";

    private static void values() {
        test("12 value: no such RULE, judge, case, NO", () -> {
            for (int rule : NO_RULE) {
                refused("value(" + rule + ", 0, 0)", RICH, x -> x.value(rule, 0, 0), NO);
            }
            for (int who : NO_SEAT) {
                refused("value(0, " + who + ", 0)", RICH, x -> x.value(0, who, 0), NO);
                refused("value(1, 0, " + who + ")", RICH, x -> x.value(1, 0, who), NO);
            }
        });
        test("12 value: EMPTY, 0, of all RULES at all PAIRS", () -> {
            CourtMatcher x = new CourtMatcher();
            for (int i = 0; i < 256; i++) {
                due("value", x.value(i / 64, i / 8 % 8, i % 8), 0);
            }
        });
        test("12 value: below 0 it is told as it is, whatever the OWN burden", () -> {
            CourtMatcher x = new CourtMatcher();
            text(x, 0, "-7");
            x.tell(0, 0, 5);
            due("VALUE", x.value(0, 0, 0), -7);
        });
        test("12 value: a b c of the judge, x y z of the case, p q r s of RULES", () -> {
            CourtMatcher x = new CourtMatcher();
            text(x, 1, "20");
            text(x, 2, "q+10");
            text(x, 3, "40");
            for (int i = 0; i < 48; i++) {
                x.trait(i / 24, i / 3 % 8, i % 3, 100 * (i / 24 + 1) + 10 * (i / 3 % 8) + i % 3);
            }
            String names = "abcxyzqrs";
            long[] want = {170, 171, 172, 200, 201, 202, 20, 30, 40};
            for (int i = 0; i < want.length; i++) {
                text(x, 0, "" + names.charAt(i));
                due("VALUE of " + names.charAt(i), x.value(0, 7, 0), want[i]);
            }
            text(x, 0, "a*1000+x");
            due("judge 0, case 7", x.value(0, 0, 7), 100270);
            x.empty(0);
            text(x, 1, "p");
            due("an EMPTY one that is named", x.value(1, 0, 0), 0);
        });
        test("terms 2, VALUE: + comes to LIMIT, not above", () -> {
            value(MOST, LIMIT);
            value(MOST + "+0", LIMIT);
            value(MOST + "-1+1", LIMIT);
            value(MOST + "+1", NO);
            value("1+" + MOST, NO);
            value(LEAST + "+1", 1 - LIMIT);
            value(LEAST + "+-1", NO);
        });
        test("terms 2, VALUE: - comes to -LIMIT, not below", () -> {
            value(LEAST, -LIMIT);
            value(LEAST + "-0", -LIMIT);
            value(LEAST + "-1", NO);
            value("0-" + MOST, -LIMIT);
            value("0-1-" + MOST, NO);
            value(MOST + "--1", NO);
            value(MOST + "-" + MOST, 0);
        });
        test("terms 2, VALUE: * comes to LIMIT and -LIMIT, not beyond", () -> {
            value("8000*5000*25", LIMIT);
            value("8000*5000*-25", -LIMIT);
            value("9999*9999*10", 999800010);
            value("8000*5000*26", NO);
            value("8000*5000*-26", NO);
            value(MOST + "*1", LIMIT);
            value(MOST + "*0", 0);
            value(MOST + "*2", NO);
            value(LEAST + "*-1", LIMIT);
            value("(" + MOST + ")*(" + MOST + ")", NO);
            value("(" + LEAST + ")*(" + MOST + ")", NO);
        });
        test("terms 2, VALUE: what comes back within LIMIT FAILS all the same", () -> {
            value(MOST + "+1-1", NO);
            value(LEAST + "-1+1", NO);
            value("min(" + MOST + "+1,0)", NO);
            value("|" + LEAST + "-1|", NO);
            value("0*(" + MOST + "+1)", NO);
        });
        test("terms 2, VALUE: - FACTOR, | |, min, max, div at LIMIT don't FAIL", () -> {
            value("-(" + MOST + ")", -LIMIT);
            value("-(" + LEAST + ")", LIMIT);
            value("|" + LEAST + "|", LIMIT);
            value("|" + MOST + "|", LIMIT);
            value("min(" + LEAST + ",0)", -LIMIT);
            value("max(" + MOST + ",0)", LIMIT);
            value("div(" + LEAST + ",-1)", LIMIT);
            value("div(" + LEAST + ",1)", -LIMIT);
            value("mod(" + LEAST + ",-1)", 0);
        });
        test("terms 2, VALUE: | | of 0, -1, 1", () -> {
            value("|0|", 0);
            value("|0-1|", 1);
            value("|1|", 1);
            value("-0", 0);
        });
        test("terms 2, VALUE: min and max of like and unlike", () -> {
            value("min(3,3)", 3);
            value("min(2,3)", 2);
            value("min(3,2)", 2);
            value("max(3,3)", 3);
            value("max(2,3)", 3);
            value("max(3,2)", 3);
            value("max(0-3,0-2)", -2);
        });
        test("terms 2, VALUE: div by floor, with all signs", () -> {
            value("div(7,2)", 3);
            value("div(-7,2)", -4);
            value("div(7,-2)", -4);
            value("div(-7,-2)", 3);
            value("div(6,-2)", -3);
            value("div(-6,2)", -3);
            value("div(0,-5)", 0);
            value("div(1,9)", 0);
            value("div(-1,9)", -1);
        });
        test("terms 2, VALUE: mod is what is left by that, with all signs", () -> {
            value("mod(7,2)", 1);
            value("mod(-7,2)", 1);
            value("mod(7,-2)", -1);
            value("mod(-7,-2)", -1);
            value("mod(6,-2)", 0);
            value("mod(0,5)", 0);
            value("mod(1,9)", 1);
            value("mod(-1,9)", 8);
            value("mod(1,-9)", -8);
        });
        test("terms 2, VALUE: div, mod by 0 FAIL, of 0, too", () -> {
            value("div(1,0)", NO);
            value("div(0,0)", NO);
            value("mod(1,0)", NO);
            value("mod(0,0)", NO);
            value("mod(5,a)", NO);
            value("div(5,1-1)", NO);
        });
        test("terms 2, VALUE: of the first, if below; of the second, if like or above", () -> {
            value("1<2?7:8", 7);
            value("2<2?7:8", 8);
            value("3<2?7:8", 8);
            value("0-1<0?7:8", 7);
        });
        test("terms 2, VALUE: the other EXPR isn't looked at", () -> {
            value("1<2?7:div(1,0)", 7);
            value("2<1?div(1,0):8", 8);
            value("1<2?7:" + MOST + "+1", 7);
            value("2<1?7:div(1,0)", NO);
            value("1<2?div(1,0):8", NO);
            value("div(1,0)<1?7:8", NO);
            value("1<div(1,0)?7:8", NO);
            value("2<1?1<2?div(1,0):mod(1,0):1<2?5:div(1,0)", 5);
        });
        test("terms 2, VALUE: a RULE that FAILS is looked at only where it is named and live", () -> {
            CourtMatcher x = new CourtMatcher();
            text(x, 1, "div(1,0)");
            text(x, 0, "1<2?7:q");
            due("not live", x.value(0, 0, 0), 7);
            text(x, 0, "2<1?7:q");
            due("live", x.value(0, 0, 0), NO);
            text(x, 0, "0*q");
            due("times 0", x.value(0, 0, 0), NO);
            x.empty(1);
            due("EMPTY", x.value(0, 0, 0), 0);
        });
    }

    // ---- why

    private static void why(String bytes, int kind, int place) {
        CourtMatcher x = new CourtMatcher();
        due("'" + bytes + "' reads", text(x, 0, bytes) > 0 ? 1 : 0, 1);
        int[] want = kind == 0 ? new int[] {0, NONE, NONE, NONE, NONE} : new int[] {kind, place, 1, 0, NONE};
        for (int what = 0; what < 5; what++) {
            due("why(0, 0, " + what + ") of '" + bytes + "'", x.why(0, 0, what), want[what]);
        }
    }

    private static void whys() {
        test("13 why: no such judge, no such case, BAD", () -> {
            for (int who : NO_SEAT) {
                for (int what = 0; what < 5; what++) {
                    int of = what;
                    refused("why(" + who + ", 0, " + what + ")", RICH, x -> x.why(who, 0, of), BAD);
                    refused("why(0, " + who + ", " + what + ")", RICH, x -> x.why(0, who, of), BAD);
                }
            }
        });
        test("13 why: what -1 and 5, BAD, whether it FAILS or not", () -> {
            for (int what : new int[] {-1, 5, 6, LOW, HIGH}) {
                refused("FAILS", RICH, x -> x.why(3, 3, what), BAD);
                refused("doesn't", RICH, x -> x.why(0, 0, what), BAD);
                refused("EMPTY", STUCK, x -> x.why(0, 0, what), BAD);
            }
        });
        test("13 why: EMPTY, and what doesn't FAIL", () -> {
            CourtMatcher x = new CourtMatcher();
            for (int what = 0; what < 5; what++) {
                due("EMPTY", x.why(7, 7, what), what == 0 ? 0 : NONE);
            }
            why("7", 0, NONE);
            why("0-7", 0, NONE);
            why(MOST, 0, NONE);
            why(LEAST, 0, NONE);
        });
        test("13 why: behind one that FAILS, one that doesn't", () -> {
            CourtMatcher x = new CourtMatcher();
            text(x, 0, "div(1,a)");
            x.trait(0, 1, 0, 1);
            due("FAILS", x.why(0, 0, 1), 0);
            for (int what = 0; what < 5; what++) {
                due("doesn't", x.why(1, 0, what), what == 0 ? 0 : NONE);
            }
        });
        test("13 why: of each of 64 PAIRS, by its judge and its case", () -> {
            CourtMatcher x = new CourtMatcher();
            text(x, 0, "div(1,a-x)");
            for (int i = 0; i < 8; i++) {
                x.trait(0, i, 0, i);
                x.trait(1, i, 0, 7 - i);
            }
            for (int i = 0; i < 64; i++) {
                boolean fails = i / 8 + i % 8 == 7;
                due("KIND of " + i, x.why(i / 8, i % 8, 0), fails ? 1 : 0);
                due("PLACE of " + i, x.why(i / 8, i % 8, 1), fails ? 0 : NONE);
                due("VALUE of " + i + " is none", x.value(0, i / 8, i % 8) == NO ? 1 : 0, fails ? 1 : 0);
                due("BURDEN of " + i + " is none", x.burden(i / 8, i % 8) == NO ? 1 : 0, fails ? 1 : 0);
            }
        });
        test("13 why: KIND 1, at the first byte of the WORD", () -> {
            why("div(1,0)", 1, 0);
            why("mod(1,0)", 1, 0);
            why("  mod(1,0)", 1, 2);
            why("2*(3+div(1,0))", 1, 5);
            why("div(0,0)", 1, 0);
            due("the last byte", text(new CourtMatcher(), 0, times(" ", 52) + "div(1,0)"), 3);
            why(times(" ", 52) + "div(1,0)", 1, 52);
        });
        test("13 why: KIND 2, at the byte of the sign", () -> {
            why(MOST + "+1", 2, 14);
            why(LEAST + "-1", 2, 15);
            why("9999*9999*11", 2, 9);
            why(MOST + "*2", 2, 14);
            why("(" + MOST + ") + 1", 2, 17);
            why("1-(" + LEAST + ")", 2, 1);
            why("-(" + LEAST + ")+1", 2, 18);
        });
        test("13 why: the first from left to right, by what stands in it", () -> {
            why("div(1,0)+mod(1,0)", 1, 0);
            why("1+mod(1,0)*div(1,0)", 1, 2);
            why("div(mod(1,0),0)", 1, 4);
            why("div(1,mod(1,0))", 1, 6);
            why(MOST + "+div(1,0)", 1, 15);
            why(MOST + "+1+div(1,0)", 2, 14);
            why(MOST + "+" + MOST + "*2", 2, 29);
            why("max(" + MOST + "+1,div(1,0))", 2, 18);
        });
        test("13 why: whatever its OWN burden, whoever is IN", () -> {
            CourtMatcher x = court(1, 1);
            text(x, 0, "div(1,0)");
            x.tell(0, 0, 5);
            due("OWN", x.why(0, 0, 0), 1);
            due("OUT", x.why(7, 7, 0), 1);
            x.mark(0, 0, 1);
            due("BARRED", x.why(0, 0, 0), 1);
        });
        test("13 why: CHAINS of one, of two, of three, of four", () -> {
            CourtMatcher x = new CourtMatcher();
            String[] texts = {"1+q", "2*r", "  -s", " div(1,0)"};
            int[][] want = {{1, 1, 1, 0, NONE}, {1, 1, 2, 1, 0}, {1, 1, 3, 2, 1}, {1, 1, 4, 3, 2}};
            for (int n = 0; n < 4; n++) {
                for (int rule = 0; rule <= n; rule++) {
                    x.empty(rule);
                }
                for (int rule = n; rule >= 0; rule--) {
                    text(x, rule, rule == n ? texts[3] : texts[rule]);
                }
                for (int what = 0; what < 5; what++) {
                    due("chain of " + (n + 1) + ", what " + what, x.why(2, 3, what), want[n][what]);
                }
            }
        });
        test("13 why: by the RULE that FAILS first, not by one named ahead of it", () -> {
            CourtMatcher x = new CourtMatcher();
            text(x, 0, "q+r+s");
            text(x, 1, "1");
            text(x, 2, "q+mod(1,0)");
            text(x, 3, "div(1,0)");
            int[] want = {1, 2, 2, 2, 0};
            for (int what = 0; what < 5; what++) {
                due("what " + what, x.why(0, 0, what), want[what]);
            }
            text(x, 2, "q+1");
            int[] then = {1, 0, 2, 3, 0};
            for (int what = 0; what < 5; what++) {
                due("what " + what, x.why(0, 0, what), then[what]);
            }
        });
        test("13 why: a RULE that RULE 0 doesn't name is no matter", () -> {
            CourtMatcher x = new CourtMatcher();
            text(x, 3, "div(1,0)");
            text(x, 0, "5");
            due("what 0", x.why(0, 0, 0), 0);
            x.empty(0);
            due("EMPTY", x.why(0, 0, 0), 0);
        });
    }

    private static void changes() {
        test("9, 10: what is asked follows the RULES, whatever was asked ahead", () -> {
            follows("text(0)", RICH, x -> x.text(0));
            follows("text(2), that is named", RICH, x -> x.text(2));
            follows("empty(0)", RICH, x -> x.empty(0));
            follows("empty(1), that is named", RICH, x -> x.empty(1));
            follows("empty(2), that one names that is named", RICH, x -> x.empty(2));
        });
    }

    public static void main(String[] args) {
        changes();
        feeding();
        tokens();
        grammar();
        shapes();
        parts();
        open();
        text();
        empty();
        told();
        values();
        whys();
        Check.end();
    }
}
