/** Edges of section 2 (texts) and of the promises 2 to 4 and 14 (the tape, inRange). */
final class TextEdges {
    private static final int MIN = Integer.MIN_VALUE;
    private static final int MAX = Integer.MAX_VALUE;

    private TextEdges() {}

    static void all() {
        append();
        clearTape();
        errorPosition();
        inRange();
        grammarOfNeeds();
        grammarOfRanges();
        tokens();
        reading();
        spans();
        trials();
    }

    // ---- What the tests share

    /** Packages a, b and c; a has the version 1.0. */
    private static Kit abc() {
        return Kit.of(3).v(0, 10099);
    }

    private static void right(Kit kit, String... texts) {
        for (String text : texts) {
            Kit.same("wish \"" + text + "\"", Kit.answer(() -> kit.wish(text)), 0);
            Kit.same("error position of \"" + text + "\"", kit.x.errorPosition(), -1);
            Kit.same("tape behind \"" + text + "\"", kit.x.clearTape(), 0);
            kit.x.undo();
        }
    }

    private static void wrong(Kit kit, String text, int position) {
        kit.misread(text, position, () -> kit.x.wish());
    }

    private static void rightRange(Kit kit, String... texts) {
        for (String text : texts) {
            Kit.same("range \"" + text + "\"", Kit.answer(() -> kit.pin(0, text)), 1);
            Kit.same("error position of \"" + text + "\"", kit.x.errorPosition(), -1);
            Kit.same("tape behind \"" + text + "\"", kit.x.clearTape(), 0);
            kit.x.undo();
        }
    }

    private static void wrongRange(Kit kit, String text, int position) {
        kit.misread(text, position, () -> kit.x.inRange(0));
        kit.misread("a" + text, position + 1, () -> kit.x.wish());
        kit.misread(text, position, () -> kit.x.pin(0));
    }

    /** The versions of a that meet a range: by pins those that some set has, and by inRange. */
    private static void met(Kit kit, String range, String due) {
        kit.pin(0, range);
        StringBuilder codes = new StringBuilder();
        int count = 0;
        for (int k = 0; k < kit.x.versions(0); k++) {
            int code = kit.x.versionAt(0, k);
            if (kit.x.must(0, code) == 0) {
                codes.append(codes.length() > 0 ? " " : "").append(code);
                count++;
            }
        }
        kit.x.undo();
        Kit.same("what meets " + range, codes.toString(), due);
        Kit.same("how many meet " + range, kit.inRange(0, range), count);
    }

    // ---- Promises 2 to 4 and 14

    private static void append() {
        Edge.of("P2", "the four bytes of each parameter, the most significant byte first, in the "
                + "order of the parameters.").holds(() -> {
            Kit kit = abc();
            for (int place = 0; place < 20; place++) {
                int[] words = new int[5];
                for (int k = 0; k < 20; k++) {
                    words[k / 4] = words[k / 4] << 8 | (k == place ? '?' : ' ');
                }
                kit.x.append(words[0], words[1], words[2], words[3], words[4]);
                Kit.same("reads", Kit.answer(kit.x::wish), "IllegalArgumentException");
                Kit.same("the byte " + place, kit.x.errorPosition(), place);
            }
        });
        Edge.of("P2", "Bytes that are 0 are left out.").holds(() -> {
            Kit kit = abc();
            Kit.same("none but 0", kit.x.append(0, 0, 0, 0, 0), 0);
            for (int place = 0; place < 20; place++) {
                int[] words = {0x20202020, 0x20202020, 0x20202020, 0x20202020, 0x2020203f};
                words[place / 4] &= ~(255 << 24 - 8 * (place % 4));
                int bytes = kit.x.append(words[0], words[1], words[2], words[3], words[4]);
                Kit.same("without the byte " + place, bytes, 19);
                Kit.same("reads", Kit.answer(kit.x::wish), "IllegalArgumentException");
                Kit.same("without the byte " + place, kit.x.errorPosition(), place == 19 ? 19 : 18);
            }
            Kit.same("1 to 255 are not 0", kit.x.append(0x01ff0080, 0x7f000000, MIN, -1, 1), 10);
        });
        Edge.of("P2", "Returns the number of bytes on the tape afterwards.").holds(() -> {
            Kit kit = new Kit();
            for (int k = 1; k <= 10; k++) {
                Kit.same("20 more", kit.x.append(-1, MIN | 0x10101, 0x01010101, MAX, -1), 20 * k);
            }
        });
        fullTape();
    }

    private static Kit filled(int bytes) {
        Kit kit = new Kit();
        for (int k = 0; k < bytes; k++) {
            kit.x.append(0, 0, '?' << 8, 0, 0);
        }
        return kit;
    }

    private static void fullTape() {
        Edge.of("P2", "Throws `IllegalStateException` if the tape would have more than 200 bytes")
                .holds(() -> {
            Kit kit = filled(180);
            Kit.same("200", kit.x.append(-1, -1, -1, -1, -1), 200);
            Kit.same("200 and none", kit.x.append(0, 0, 0, 0, 0), 200);
            kit.state("201", () -> kit.x.append(0, 0, 0, 0, 1));
            Kit.same("nothing was appended", kit.x.clearTape(), 200);
            Kit most = filled(181);
            most.state("201", () -> most.x.append(-1, -1, -1, -1, -1));
            Kit.same("none of them was appended", most.x.append(0, 0, 0, 0, 0), 181);
            Kit.same("19", most.x.append(-1, -1, -1, -1, -1 >>> 8), 200);
            Kit one = filled(199);
            one.state("201", () -> one.x.append(0x00010000, 0, 0, 0, 0x01000000));
            Kit.same("one", one.x.append(0, 0, 0, 0, 0x01000000), 200);
            Kit text = abc();
            text.tape(" ".repeat(198) + "a");
            text.state("201", () -> text.x.append('?', '?', 0, 0, 0));
            Kit.same("what was there is read", text.x.wish(), 0);
        });
    }

    private static void clearTape() {
        Edge.of("P3", "Empties the tape.").holds(() -> {
            Kit kit = abc();
            kit.tape("? ?").x.clearTape();
            kit.tape("a");
            Kit.same("nothing of it is read", kit.x.wish(), 0);
        });
        Edge.of("P3", "Returns the number of bytes that were on it.").holds(() -> {
            Kit kit = filled(200);
            Kit.same("full", kit.x.clearTape(), 200);
            Kit.same("empty", kit.x.clearTape(), 0);
            Kit.same("one", kit.x.append(0, 0, 0, 0, 1), 1);
            Kit.same("one", kit.x.clearTape(), 1);
            Kit.same("new", new Kit().x.clearTape(), 0);
        });
    }

    private static void errorPosition() {
        Edge.of("P4", "Returns the position;").holds(() -> {
            Kit kit = abc();
            wrong(kit, "?", 0);
            wrong(kit, " ".repeat(199) + "?", 199);
            wrong(kit, " ".repeat(200), 200);
        });
        Edge.of("P4", "NONE if there was no error, or no such call yet.").holds(() -> {
            Kit kit = abc();
            Kit.same("no such call", kit.x.errorPosition(), -1);
            kit.noPackage("inRange", kit.x::inRange);
            Kit.same("no call that read", kit.x.errorPosition(), -1);
            Kit.Call[] calls = {() -> kit.need(0, 10099, "a"), () -> kit.ban(0, 10099, "a"),
                () -> kit.option(0, 10099, "a"), () -> kit.wish("a"), () -> kit.pin(0, "*"),
                () -> kit.inRange(0, "*"), () -> kit.pin(0, "")};
            for (Kit.Call call : calls) {
                wrong(kit, " ?", 1);
                call.on();
                Kit.same("no error", kit.x.errorPosition(), -1);
            }
        });
        Edge.of("P4", "Returns the error position of the latest call that read the tape.")
                .holds(() -> {
            Kit kit = abc();
            Kit.Call[] calls = {() -> kit.x.need(0, 10099, true), () -> kit.x.ban(0, 10099),
                () -> kit.x.option(0, 10099), kit.x::wish, () -> kit.x.pin(0),
                () -> kit.x.inRange(0)};
            for (int k = 0; k < calls.length; k++) {
                kit.misread(" ".repeat(k) + "?", k, calls[k]);
            }
            kit.tape("a");
            kit.x.errorPosition();
            kit.x.undo();
            Kit.same("other calls leave it", kit.x.errorPosition(), 5);
        });
    }

    private static void inRange() {
        Edge.of("P14", "Counts the versions of a package that meet the range on the tape (an empty "
                + "tape is an error here).").holds(() -> {
            Kit kit = abc();
            kit.misread("", 0, () -> kit.x.inRange(0));
            kit.misread(" ", 1, () -> kit.x.inRange(0));
        });
        Edge.of("P14", "(A question, but for the tape.)").holds(() -> {
            Kit kit = new Kit();
            kit.x.pack();
            Kit.same("meets", kit.inRange(0, "*"), 0);
            Kit.same("is no change", kit.x.count(7), 1);
            Kit.same("empties the tape", kit.x.clearTape(), 0);
            kit.misread("*?", 1, () -> kit.x.inRange(0));
            Kit.same("undoes the package", kit.x.undo(), 0);
            Kit.same("undoes the package", kit.x.count(0), 0);
        });
        Edge.of("P14", "Returns how many there are.").holds(() -> {
            Kit kit = Kit.of(2).v(0, 1, 99, 9999, 10099, 10101, 990099, 999998, 999999).v(1, 99);
            kit.x.provide(1, 99, 0, 299);
            Kit.same("all of 8", kit.inRange(0, "0.0!1,*,99.99!98,1.1!1"), 8);
            Kit.same("each once", kit.inRange(0, "1.0,1.0,>1.0,<1.1"), 5);
            Kit.same("none, and none that is provided", kit.inRange(0, "0.2"), 0);
            Kit.same("without versions", Kit.of(1).inRange(0, "*"), 0);
        });
        Edge.of("P14", "- `pack`: number of a package",
                "Throws `IndexOutOfBoundsException` if there is no such package").holds(() -> {
            Kit kit = new Kit();
            kit.noPackage("inRange", kit.x::inRange);
            for (int p = 0; p < 12; p++) {
                kit.x.pack();
                Kit.same("inRange", kit.inRange(p, "*"), 0);
                kit.noPackage("inRange", kit.x::inRange);
            }
        });
        Edge.of("P14", "Throws `IllegalArgumentException` if the text has an error, or is no range")
                .holds(() -> {
            Kit kit = abc();
            kit.misread("1.", 2, () -> kit.x.inRange(0));
            kit.misread("a", 0, () -> kit.x.inRange(0));
            kit.misread("a#", 0, () -> kit.x.inRange(0));
            kit.misread("1.0|1.0", 3, () -> kit.x.inRange(0));
            kit.misread("1.0#", 3, () -> kit.x.inRange(0));
            kit.misread("1.0 a", 4, () -> kit.x.inRange(0));
        });
    }

    // ---- Section 2: the grammar

    private static void grammarOfNeeds() {
        Edge.of("2", "The grammar is (curly braces: zero or more times;").holds(() -> {
            Kit kit = abc();
            right(kit, "a", "a|a", "a|a|a", "a" + "|a".repeat(99), "a*", "a*,*", "a*" + ",*".repeat(99));
            wrong(kit, "", 0);
            wrong(kit, "a" + "|a".repeat(99) + "|", 200);
            wrong(kit, "a*" + ",*".repeat(98) + ",", 199);
        });
        Edge.of("2", "square brackets: once or not at all):").holds(() -> {
            Kit kit = abc();
            right(kit, "a", "a*", "a#", "a#*", "a 1.0", "a 1.0!1", "a =1.0");
            wrong(kit, "a**", 2);
            wrong(kit, "a 1.0!1!1", 7);
            wrong(kit, "a ==1.0", 3);
            wrong(kit, "a##", 2);
        });
        Edge.of("2", "need    = LETTER \"#\" [ range ] | atom { \"|\" atom }").holds(() -> {
            Kit kit = abc();
            right(kit, "a#", "a # 1.0, 2.0", "a|b|c", "a 1.0 | a 2.0");
            wrong(kit, "#", 0);
            wrong(kit, "a#b", 2);
            wrong(kit, "a#|b", 2);
            wrong(kit, "a#1.0|b", 5);
            wrong(kit, "a|b#", 3);
            wrong(kit, "a 1.0#", 5);
            wrong(kit, "a|", 2);
            wrong(kit, "|a", 0);
            wrong(kit, "a||b", 2);
            wrong(kit, "a,b", 1);
        });
        Edge.of("2", "atom    = LETTER [ range ]").holds(() -> {
            Kit kit = abc();
            right(kit, "c", "c1.0", "c*");
            wrong(kit, "1.0", 0);
            wrong(kit, "*", 0);
            wrong(kit, "ab", 1);
            wrong(kit, "a1.0b", 4);
            kit.misread("", 0, () -> kit.x.ban(0, 10099));
            kit.misread("ab", 1, () -> kit.x.ban(0, 10099));
            Kit.same("an atom", kit.ban(0, 10099, "a1.0"), 1);
        });
    }

    private static void grammarOfRanges() {
        Edge.of("2", "range   = span { \",\" span }").holds(() -> {
            Kit kit = abc();
            rightRange(kit, "*", "1.0,*", "*,1.0,1.0..2.0,<2.0");
            wrongRange(kit, "*,", 2);
            wrongRange(kit, ",*", 0);
            wrongRange(kit, "*,,*", 2);
            wrongRange(kit, "1.0 2.0", 4);
            kit.misread("", 0, () -> kit.x.inRange(0));
        });
        Edge.of("2", "span    = \"*\" | [ \"=\" | \">\" | \"<\" | \"^\" | \"~\" ] VERSION | VERSION "
                + "\"..\" VERSION").holds(() -> {
            Kit kit = abc();
            rightRange(kit, "*", "1.0", "=1.0", ">1.0", "<1.0", "^1.0", "~1.0", "1.0..2.0");
            for (String sign : new String[] {"=", ">", "<", "^", "~"}) {
                wrongRange(kit, sign, 1);
                wrongRange(kit, sign + sign + "1.0", 1);
                wrongRange(kit, sign + "*", 1);
                wrongRange(kit, "1.0" + sign, 3);
                wrongRange(kit, sign + "1.0..2.0", 4);
                wrongRange(kit, "1.0.." + sign + "2.0", 5);
            }
            wrongRange(kit, "*1.0", 1);
            wrongRange(kit, "1.0*", 3);
            wrongRange(kit, "..1.0", 0);
            wrongRange(kit, "1.0..", 5);
            wrongRange(kit, "1.0..*", 5);
            wrongRange(kit, "*..1.0", 1);
            wrongRange(kit, "1.0..2.0..3.0", 8);
        });
        Edge.of("2", "VERSION = NUMBER \".\" NUMBER [ \"!\" NUMBER ]").holds(() -> {
            Kit kit = abc();
            rightRange(kit, "1.0", "1.0!5", "1.0!5..1.0", "1.0..1.1!5");
            wrongRange(kit, "1", 1);
            wrongRange(kit, "1.", 2);
            wrongRange(kit, "1.0!", 4);
            wrongRange(kit, "1!5", 1);
            wrongRange(kit, ".1", 0);
            wrongRange(kit, "!5", 0);
            wrongRange(kit, "1.0.0", 3);
            wrongRange(kit, "1.!5", 2);
            wrongRange(kit, "1.0!5!5", 5);
            wrongRange(kit, "1.0!5.0", 5);
            wrongRange(kit, "1,0", 1);
            wrongRange(kit, "1.0..2", 6);
        });
    }

    private static void tokens() {
        Edge.of("2", "A LETTER is one of the letters a to l of a package that is there.").holds(() -> {
            Kit kit = new Kit();
            for (int p = 0; p <= 12; p++) {
                for (int q = 0; q < p; q++) {
                    right(kit, "" + (char) ('a' + q));
                }
                for (char letter : new char[] {(char) ('a' + p), 'm', 'z', 'A', 'L', '`'}) {
                    wrong(kit, "" + letter, 0);
                }
                if (p < 12) {
                    kit.x.pack();
                }
            }
            kit.x.undo();
            wrong(kit, "l", 0);
        });
        Edge.of("2", "A NUMBER is a maximal run of digits, 1 or 2 of them;").holds(() -> {
            Kit kit = abc();
            rightRange(kit, "0.0", "9.9", "00.00", "01.09", "10.90", "99.99", "1.0!1", "1.0!01");
            wrongRange(kit, "000.0", 0);
            wrongRange(kit, "100.0", 0);
            wrongRange(kit, "1.000", 2);
            wrongRange(kit, "1.0!001", 4);
            wrongRange(kit, "1.0!100", 4);
            wrongRange(kit, "1 0.0", 2);
            wrongRange(kit, "1.0 0", 4);
            wrongRange(kit, "1".repeat(199), 0);
            kit.v(0, 10199, 110099);
            met(kit, "01.01", "10199");
            met(kit, "11.00", "110099");
        });
        Edge.of("2", "behind \"!\" it is from 1 to 98.").holds(() -> {
            Kit kit = Kit.of(1).v(0, 10001, 10009, 10098, 10099);
            met(kit, "1.0!1", "10001");
            met(kit, "1.0!01", "10001");
            met(kit, "1.0!09", "10009");
            met(kit, "1.0!98", "10098");
            for (String trial : new String[] {"0", "00", "99"}) {
                wrongRange(kit, "1.0!" + trial, 4);
                wrongRange(kit, "1.0.. 1.1 ! " + trial, 12);
            }
        });
        Edge.of("2", "(two points side by side are always this one, also behind a NUMBER, where it "
                + "does not fit in a VERSION)").holds(() -> {
            Kit kit = abc();
            wrongRange(kit, "1..0", 1);
            wrongRange(kit, "1 .. 0", 2);
            wrongRange(kit, "1...0", 1);
            wrongRange(kit, "1.0..1..0", 6);
            wrongRange(kit, "1. .0", 3);
            wrongRange(kit, "1.0...2.0", 5);
            wrongRange(kit, "1.0....2.0", 5);
            wrongRange(kit, "1.0. .2.0", 3);
            rightRange(kit, "1.0..2.0", "1 . 0 .. 2 . 0");
        });
        bytes();
    }

    private static void bytes() {
        Edge.of("2", "The bytes 32 and 10 may stand ahead of, between and behind tokens.").holds(() -> {
            Kit kit = abc();
            right(kit, " a", "\na", "a ", "a\n", " \n a \n #\n>\n1 . 0\n!\n1 ,\n1.0\n..\n1.0\n ",
                    " ".repeat(100) + "a" + "\n".repeat(99));
            wrong(kit, "a 1. 0 0", 7);
            for (int other : new int[] {9, 11, 12, 13, 31, 33, 127, 133, 160, 255}) {
                wrong(kit, (char) other + "a", 0);
                wrong(kit, "a" + (char) other, 1);
                wrong(kit, "a " + (char) other + "|b", 2);
            }
        });
        Edge.of("2", "Everything else, so also a longer run of digits, is no token.").holds(() -> {
            Kit kit = Kit.of(12);
            for (int one = 1; one < 256; one++) {
                boolean isBlank = one == 32 || one == 10;
                if (one >= 'a' && one <= 'l') {
                    right(kit, "" + (char) one);
                    wrong(kit, "a" + (char) one, 1);
                } else {
                    wrong(kit, "" + (char) one, isBlank ? 1 : 0);
                    wrong(kit, "|" + (char) one, 0);
                }
                boolean isRight = isBlank || one == '*' || one == '#';
                boolean isShort = one >= '0' && one <= '9' || "|=><^~".indexOf(one) >= 0;
                if (isRight) {
                    right(kit, "a" + (char) one);
                } else {
                    wrong(kit, "a" + (char) one, isShort ? 2 : 1);
                }
            }
            wrong(kit, "a 123.0", 2);
            wrong(kit, "a 1234567890.0", 2);
            wrong(kit, "a 1.123", 4);
        });
        Edge.of("2", "Tokens are LETTERs, NUMBERs and the signs # | , * = > < ^ ~ . ! and \"..\"")
                .holds(() -> {
            Kit kit = abc();
            right(kit, "a#", "a|b", "a*,*", "a=1.0", "a>1.0", "a<1.0", "a^1.0", "a~1.0", "a1.0!1",
                    "a1.0..2.0");
            for (char other : "$%&'()+-/:;?@[\\]_`{}\"".toCharArray()) {
                wrong(kit, "a" + other, 1);
            }
        });
    }

    private static void reading() {
        Edge.of("2", "Reading stops at the first token that does not fit:", "it is no token,")
                .holds(() -> {
            Kit kit = abc();
            wrong(kit, "a ? d ?", 2);
            wrong(kit, "a ??", 2);
            wrong(kit, "? d", 0);
            wrong(kit, "a b ?", 2);
            wrong(kit, "a 1.0 1.0 ?", 6);
        });
        Edge.of("2", "it is a LETTER of no package,").holds(() -> {
            Kit kit = abc();
            wrong(kit, "a | d ?", 4);
            wrong(kit, "a d", 2);
            wrong(kit, "l", 0);
            right(kit, "a|c");
        });
        Edge.of("2", "a 0 or 99 behind \"!\",").holds(() -> {
            Kit kit = abc();
            wrong(kit, "a 1.0!0?", 6);
            wrong(kit, "a 1.0!99?", 6);
            wrong(kit, "a 1.0! 99 ?", 7);
            right(kit, "a 0.0!1,99.99!98,99.0,0.99");
        });
        Edge.of("2", "the grammar does not allow it there,").holds(() -> {
            Kit kit = abc();
            wrong(kit, "a a", 2);
            wrong(kit, "a !", 2);
            wrong(kit, "a .. ", 2);
            wrong(kit, "a 1.0 a", 6);
            wrong(kit, "a 1.0,a", 6);
        });
        Edge.of("2", "or it is the \"..\" between two VERSIONs of which the second one is older")
                .holds(() -> {
            Kit kit = abc();
            rightRange(kit, "1.0..1.0", "1.0!5..1.0!5", "1.0!98..1.0", "0.99..1.0", "1.0!5..1.0!6");
            wrongRange(kit, "2.0..1.99", 3);
            wrongRange(kit, "1.0..1.0!98", 3);
            wrongRange(kit, "1.0!5..1.0!4", 5);
            wrongRange(kit, "1.1 .. 1.0", 4);
            wrongRange(kit, "1.0..2.0,2.0..1.0", 12);
        });
        Edge.of("2", "(this is met when the second VERSION has been read, ahead of the token behind "
                + "it, and the \"..\" is told)").holds(() -> {
            Kit kit = abc();
            wrongRange(kit, "2.0..1.0?", 3);
            wrongRange(kit, "2.0..1.0,,", 3);
            wrongRange(kit, "2.0..1.0 100", 3);
            wrongRange(kit, "2.0..1.0!5?", 3);
            wrongRange(kit, "2.0..1", 6);
            wrongRange(kit, "2.0..1.", 7);
            wrongRange(kit, "2.0..1.?", 7);
            wrongRange(kit, "2.0..1.0!", 9);
            wrongRange(kit, "2.0..1.0!0", 9);
            wrongRange(kit, "2.0..1.0!99", 9);
        });
        Edge.of("2", "The error position is the index of its first byte, or the length of the text if "
                + "the text ends too early.").holds(() -> {
            Kit kit = abc();
            wrong(kit, "", 0);
            wrong(kit, " ", 1);
            wrong(kit, " \n ", 3);
            wrong(kit, "a  ?", 3);
            wrong(kit, "a 1.\n 100", 6);
            wrong(kit, "a 1.0..", 7);
            wrong(kit, "a 1.0.. \n", 9);
            wrong(kit, "a" + " ".repeat(198) + "?", 199);
            wrong(kit, "a|" + " ".repeat(198), 200);
        });
    }

    // ---- Section 2: what meets a range

    /** The least and the greatest parts, and versions at both sides of 1.0, 1.1 and 2.0. */
    private static Kit parts() {
        return Kit.of(1).v(0, 99, 9999, 10099, 10199, 19999, 20099, 20199, 999999);
    }

    private static void spans() {
        Edge.of("2", "\"*\" by all;").holds(() ->
                met(parts(), "*", "99 9999 10099 10199 19999 20099 20199 999999"));
        Edge.of("2", "a VERSION alone or behind \"=\" by this one;").holds(() -> {
            for (String sign : new String[] {"", "="}) {
                met(parts(), sign + "0.0", "99");
                met(parts(), sign + "1.1", "10199");
                met(parts(), sign + "1.2", "");
                met(parts(), sign + "99.99", "999999");
            }
        });
        Edge.of("2", "behind \">\" by it and all newer ones;").holds(() -> {
            met(parts(), ">0.0", "99 9999 10099 10199 19999 20099 20199 999999");
            met(parts(), ">1.99", "19999 20099 20199 999999");
            met(parts(), ">2.2", "999999");
            met(parts(), ">99.99", "999999");
        });
        Edge.of("2", "behind \"<\" by all older ones;").holds(() -> {
            met(parts(), "<0.0", "");
            met(parts(), "<0.1", "99");
            met(parts(), "<1.0", "99 9999");
            met(parts(), "<1.1", "99 9999 10099");
            met(parts(), "<99.99", "99 9999 10099 10199 19999 20099 20199");
        });
        Edge.of("2", "behind \"^\" by it and newer ones with the same major part;").holds(() -> {
            met(parts(), "^0.0", "99 9999");
            met(parts(), "^1.0", "10099 10199 19999");
            met(parts(), "^1.1", "10199 19999");
            met(parts(), "^1.99", "19999");
            met(parts(), "^2.2", "");
            met(parts(), "^99.0", "999999");
            met(Kit.of(1).v(0, 19999, 20001, 20099, 990001, 999999), "^2.0!1", "20001 20099");
            met(Kit.of(1).v(0, 19999, 20001, 20099, 990001, 999999), "^99.0!1", "990001 999999");
        });
        Edge.of("2", "behind \"~\" by it and newer ones with the same major and minor part;")
                .holds(() -> {
            met(parts(), "~1.1", "10199");
            met(parts(), "~1.98", "");
            met(Kit.of(1).v(0, 9998, 9999, 10001, 10005, 10098, 10099, 10101, 10199), "~1.0!5",
                    "10005 10098 10099");
        });
        Edge.of("2", "\"V..W\" by those that are not older than V and not newer than W.").holds(() -> {
            met(parts(), "0.0..99.99", "99 9999 10099 10199 19999 20099 20199 999999");
            met(parts(), "1.0..2.0", "10099 10199 19999 20099");
            met(parts(), "1.1..1.99", "10199 19999");
            met(parts(), "2.1..2.1", "20199");
            met(parts(), "1.2..1.98", "");
        });
        Edge.of("2", "A range is met if one of its spans is met;").holds(() -> {
            met(parts(), "7.0,1.0", "10099");
            met(parts(), "1.0,7.0", "10099");
            met(parts(), "7.0,7.1,7.2", "");
            met(parts(), "<1.0,>3.0,1.1", "99 9999 10199 999999");
        });
    }

    private static void trials() {
        Edge.of("2", "But a version with a trial number meets a span only if it is the VERSION of a "
                + "span without a sign or with \"=\", or if a VERSION of the span has a trial number "
                + "and the same major and minor part.").holds(() -> {
            Kit kit = Kit.of(1).v(0, 10005, 10007, 10099, 10105, 10199, 20005, 20099);
            met(kit, "*", "10099 10199 20099");
            met(kit, "1.0!5", "10005");
            met(kit, "=1.0!7", "10007");
            met(kit, "=1.0!6", "");
            met(kit, "1.0", "10099");
            met(kit, ">1.0!6", "10007 10099 10199 20099");
            met(kit, ">1.0!7", "10007 10099 10199 20099");
            met(kit, ">1.0", "10099 10199 20099");
            met(kit, ">0.99", "10099 10199 20099");
            met(kit, "<1.0!7", "10005");
            met(kit, "<1.0", "");
            met(kit, "<2.0", "10099 10199");
            met(kit, "<2.0!6", "10099 10199 20005");
            met(kit, "<1.1!6", "10099 10105");
            met(kit, "^1.0!7", "10007 10099 10199");
            met(kit, "^1.0!8", "10099 10199");
            met(kit, "^1.0", "10099 10199");
            met(kit, "~1.0!7", "10007 10099");
            met(kit, "~1.0!8", "10099");
            met(kit, "1.0!6..2.0", "10007 10099 10199 20099");
            met(kit, "1.0..2.0!5", "10099 10199 20005");
            met(kit, "1.0..2.0!4", "10099 10199");
            met(kit, "1.0!1..2.0!9", "10005 10007 10099 10199 20005");
            met(kit, "1.0..1.1", "10099 10199");
            met(kit, "2.0!5..2.0!5", "20005");
            met(kit, "*,1.1!5", "10099 10105 10199 20099");
            Kit least = Kit.of(1).v(0, 1, 98, 99, 101, 198, 199, 999998, 999999);
            met(least, "*", "99 199 999999");
            met(least, "0.0..99.99", "99 199 999999");
            met(least, "<99.99", "99 199");
            met(least, ">0.0!98", "98 99 199 999999");
            met(least, "<99.99!98,0.1!98", "99 198 199");
        });
        Edge.of("2", "no range is \"*\".").holds(() -> {
            Kit kit = Kit.of(1).v(0, 10098);
            kit.wish("a");
            Kit.same("no trial meets it", kit.x.solve(false), -1);
            kit.v(0, 99);
            Kit.same("but each other one", kit.x.solve(false), 1);
            Kit.same("the older one", kit.goal(), "99");
            for (int code : new int[] {1, 98, 101, 198, 990001, 999998}) {
                Kit trial = Kit.of(1).v(0, code);
                trial.wish("a");
                Kit.same("no trial " + code, trial.x.solve(false), -1);
            }
            Kit on = Kit.of(1).v(0, 10098);
            on.option(0, 10098, "a 1.0!98");
            on.wish("a#");
            Kit.same("also with #", on.x.solve(false), -1);
            on.x.unwish(0);
            on.wish("a# 1.0!98");
            Kit.same("but with its own VERSION", on.x.solve(false), 1);
        });
    }
}
