/** Promises 29 to 33: the core of the told clauses, and its proof. */
public final class WhyTest {
    private static final int MIN = Integer.MIN_VALUE;
    private static final int MAX = Integer.MAX_VALUE;

    public static void main(String[] args) {
        noCore();
        core();
        kinds();
        emptyClause();
        lastOnesGoFirst();
        proof();
        proofIsPruned();
        literals();
        noProof();
        Kit.end("WhyTest");
    }

    private static void noCore() {
        Kit kit = Kit.of(1).v(0, 10099);
        kit.wish("a");
        Kit.same("core", kit.x.core(), 0);
        Kit.same("proof", kit.x.proof(), 0);
        kit.index("coreAt", () -> kit.x.coreAt(0, 0));
        kit.index("coreAt, also what", () -> kit.x.coreAt(0, 9));
        kit.index("proofAt", () -> kit.x.proofAt(0, 9));
        kit.index("literalAt", () -> kit.x.literalAt(0, 0));
    }

    /** Two versions of a, of which one needs b and one bans c; b needs c. */
    private static Kit world() {
        Kit kit = Kit.of(3).v(0, 10099, 20099).v(1, 10099).v(2, 10099);
        kit.need(0, 10099, "b 2.0");
        kit.need(0, 20099, "b");
        kit.ban(0, 20099, "c");
        kit.need(1, 10099, "c");
        kit.wish("c");
        kit.wish("a");
        return kit;
    }

    private static void core() {
        Kit kit = world();
        Kit.same("none fits", kit.x.solve(false), -1);
        Kit.same("core", kit.x.core(), 4);
        // 0 c, 1 a, 2 a1 needs b2, 3 a2 needs b, 4 a2 bans c, 5 no option, 6 a1 or a2, 7 b needs c.
        Kit.same("numbers", kit.core(0), "0 1 2 4");
        Kit.same("kinds", kit.core(1), "0 0 3 4");
        Kit.same("of", kit.core(2), "0 1 0 0");
        Kit.same("versions", kit.core(3), "-1 -1 10099 20099");
        Kit.same("literals", kit.core(4), "1 2 1 2");
        for (int place : new int[] {-1, 4, MIN, MAX}) {
            kit.index("no place", () -> kit.x.coreAt(place, 5));
        }
        for (int what : new int[] {-1, 5, MIN, MAX}) {
            kit.argument("no what", () -> kit.x.coreAt(3, what));
        }
        kit.x.unwish(0);
        Kit.same("b needs c, so the core is another one", kit.core(0), "0 1 2 3 6");
        kit.x.undo();
        Kit.same("as before", kit.core(0), "0 1 2 4");
    }

    private static void kinds() {
        Kit kit = Kit.of(3).v(0, 10099, 20099).v(1, 10099, 20099).v(2, 10099);
        kit.option(0, 10099, "c#2.0");
        kit.wish("a 1.0");
        kit.pin(0, "1.0");
        kit.install();
        kit.x.hold(0, true);
        kit.wish("a#");
        // 0 a1, 1 a1, 2 option, 3 a1 held, 4 not option, 5 pin, 6 7 option of a1, 8 option's, 9 pair.
        Kit.same("numbers", kit.core(0), "2 4");
        Kit.same("kinds", kit.core(1), "0 1");
        Kit.same("of", kit.core(2), "1 0");
        Kit.same("no version", kit.core(3), "-1 -1");
        Kit.same("literals", kit.core(4), "1 1");
        kit.x.hold(0, false);
        Kit.same("numbers", kit.core(0), "0 2 4");
        Kit.same("kinds", kit.core(1), "0 0 5");
        Kit.same("of", kit.core(2), "0 1 0");
        Kit.same("versions", kit.core(3), "-1 -1 10099");
        Kit.same("literals", kit.core(4), "1 1 2");
        kit.x.unwish(1);
        kit.wish("a 2.0");
        Kit.same("the pin", kit.core(0), "1 2");
        Kit.same("kinds", kit.core(1), "0 2");
        Kit.same("of", kit.core(2), "2 0");
        Kit.same("versions", kit.core(3), "-1 -1");
        kit.pin(0, "");
        Kit.same("two versions", kit.core(1), "0 0 7");
        Kit.same("the older one is v", kit.core(3), "-1 -1 10099");
        kit.x.unwish(2);
        kit.wish("b#");
        Kit.same("no option", kit.core(1), "0 6");
        Kit.same("of", kit.core(2), "3 1");
        Kit.same("literals", kit.core(4), "1 1");
        Kit.same("no version", kit.core(3), "-1 -1");
        kit.x.unwish(3);
        kit.x.hold(0, true);
        kit.pin(0, "2.0");
        Kit.same("the version that is held is pinned away", kit.core(1), "0 2");
        kit.x.unwish(0);
        Kit.same("also if it is not wished", kit.core(1), "1 2");
        Kit.same("of", kit.core(2), "0 0");
        Kit.same("no version", kit.core(3), "-1 -1");
        kit.pin(0, "");
        kit.wish("a");
        kit.x.hold(2, true);
        kit.wish("c");
        Kit.same("held away", kit.core(1), "0 1");
        Kit.same("versions", kit.core(3), "-1 -1");
    }

    private static void emptyClause() {
        Kit kit = Kit.of(2).v(0, 10099);
        kit.wish("a");
        kit.wish("b");
        kit.wish("b|b");
        Kit.same("the first empty one", kit.core(0), "1");
        Kit.same("without literals", kit.core(4), "0");
        Kit.same("one row", kit.x.proof(), 1);
        Kit.same("of the core", kit.proofRow(0), "-1 -1: ");
        kit.index("no literal", () -> kit.x.literalAt(0, 0));
    }

    private static void lastOnesGoFirst() {
        Kit kit = Kit.of(2).v(0, 10099).v(1, 10099);
        kit.ban(0, 10099, "b");
        kit.ban(1, 10099, "a");
        kit.wish("a");
        kit.wish("b");
        kit.wish("a");
        // 0 a, 1 b, 2 a, 3 a bans b, 4 option, 5 b bans a, 6 option.
        Kit.same("told", kit.x.count(4), 7);
        Kit.same("the earliest are left", kit.core(0), "0 1 3");
        kit.x.unwish(0);
        Kit.same("numbers move", kit.core(0), "0 1 2");
    }

    private static void proof() {
        Kit kit = world();
        // 0 c, 1 a1 or a2, 2 not a1, 3 not a2 or not c.
        Kit.same("rows", kit.x.proof(), 7);
        Kit.same("row 0", kit.proofRow(0), "-1 -1: 2010099");
        Kit.same("row 1", kit.proofRow(1), "-1 -1: 10099 20099");
        Kit.same("row 2", kit.proofRow(2), "-1 -1: -10100");
        Kit.same("row 3", kit.proofRow(3), "-1 -1: -20100 -2010100");
        Kit.same("row 4: one literal, the earlier pair", kit.proofRow(4), "1 2: 20099");
        Kit.same("row 5: one literal", kit.proofRow(5), "0 3: -20100");
        Kit.same("row 6: none", kit.proofRow(6), "4 5: ");
        for (int row : new int[] {-1, 7, MIN, MAX}) {
            kit.index("no row", () -> kit.x.proofAt(row, 3));
            kit.index("no row", () -> kit.x.literalAt(row, 0));
        }
        for (int what : new int[] {-1, 3, MIN, MAX}) {
            kit.argument("no what", () -> kit.x.proofAt(0, what));
        }
        for (int place : new int[] {-1, 2, MIN, MAX}) {
            kit.index("no literal", () -> kit.x.literalAt(3, place));
        }
    }

    /** Rows not b and not a are joined, too, but they are not needed. */
    private static void proofIsPruned() {
        Kit kit = Kit.of(3).v(0, 10099).v(1, 10099).v(2, 10099);
        kit.need(0, 10099, "b");
        kit.need(1, 10099, "c");
        kit.need(2, 10099, "a");
        kit.ban(0, 10099, "c");
        kit.wish("a|b|c");
        // 0 wish, 1 a needs b, 2 a bans c, 3 option, 4 b needs c, 5 option, 6 c needs a.
        Kit.same("core", kit.core(0), "0 1 2 4 6");
        Kit.same("proof", kit.x.proof(), 9);
        Kit.same("row 5", kit.proofRow(5), "2 4: -2010100");
        Kit.same("row 6", kit.proofRow(6), "0 1: 1010099 2010099");
        Kit.same("row 7", kit.proofRow(7), "3 6: 2010099");
        Kit.same("row 8", kit.proofRow(8), "5 7: ");
    }

    private static void literals() {
        Kit kit = Kit.of(2).v(0, 20099, 10099).v(1, 30099, 10099, 20007);
        kit.option(0, 10099, "a 9.0");
        kit.option(0, 20099, "a 9.0|b 1.0");
        kit.wish("a#");
        kit.pin(1, "2.0!7, 3.0");
        kit.x.provide(1, 20007, 0, 90099);
        kit.x.provide(1, 30099, 0, 90099);
        kit.ban(1, 20007, "a");
        kit.ban(1, 30099, "a");
        Kit.same("none fits", kit.x.solve(false), -1);
        StringBuilder rows = new StringBuilder();
        for (int row = 0; row < kit.x.core(); row++) {
            rows.append(kit.proofRow(row)).append("\n");
        }
        Kit.same("the core's rows", rows.toString(), "-1 -1: 10099 20099\n-1 -1: 0\n"
                + "-1 -1: -1010100\n"
                + "-1 -1: -10100 -1 1020007 1030099\n"
                + "-1 -1: -20100 -1 1010099 1020007 1030099\n"
                + "-1 -1: -10100 -1020008\n-1 -1: -20100 -1020008\n"
                + "-1 -1: -10100 -1030100\n-1 -1: -20100 -1030100\n");
    }

    /** Seven packages that need one of five places each: the proof of that has too many rows. */
    private static void noProof() {
        Kit kit = Kit.of(7);
        for (int p = 0; p < 6; p++) {
            for (int place = 1; place <= 5; place++) {
                int code = 10000 * place + 99;
                kit.v(p, code);
                kit.x.provide(p, code, 6, code);
                kit.ban(p, code, "g " + place + ".0");
            }
            kit.wish("" + (char) ('a' + p));
        }
        Kit.same("core", kit.x.core(), 81);
        Kit.same("no proof", kit.x.proof(), -1);
        kit.index("no row", () -> kit.x.proofAt(0, 0));
        kit.index("no literal", () -> kit.x.literalAt(0, 0));
        Kit.same("no error", kit.x.errors(), 0);
        coreTooLarge();
    }

    /** Of ten packages all versions ban each other, and one of five is needed, and of five. */
    static void coreTooLarge() {
        Kit kit = Kit.of(11);
        for (int k = 0; k < 40; k++) {
            int code = 10099 + 100 * (k / 10);
            kit.v(k % 10, code);
            kit.x.provide(k % 10, code, 10, 10099);
            kit.ban(k % 10, code, "k");
        }
        kit.wish("a|b|c|d|e");
        kit.wish("f|g|h|i|j");
        Kit.same("core", kit.x.core(), 2 + 20 * 20);
        Kit.same("more than 200 rows", kit.x.proof(), -1);
        kit.index("no row", () -> kit.x.proofAt(0, 0));
        groups(5, 18, 0, 92, 200);
        groups(7, 13, 1, 94, 199);
        groups(7, 13, 2, 95, -1);
    }

    /**
     * One of so many versions is needed, and one of so many, and all of them ban each other; the
     * first need has some more versions, which are pinned away. The last of these has 201 rows.
     */
    static void groups(int first, int second, int pinned, int core, int proof) {
        Kit kit = Kit.of(12);
        StringBuilder[] wishes = {new StringBuilder("l 8.0"), new StringBuilder("l 8.0")};
        for (int k = 0; k < first + second + pinned; k++) {
            boolean isPinned = k >= first + second;
            int pack = isPinned ? 11 : k % 10;
            int minor = isPinned ? k - first - second : k / 10;
            kit.v(pack, 10099 + 100 * minor);
            if (!isPinned) {
                kit.x.provide(pack, 10099 + 100 * minor, 10, 10099);
                kit.ban(pack, 10099 + 100 * minor, "k");
            }
            wishes[k < first || isPinned ? 0 : 1].append('|').append((char) ('a' + pack))
                    .append("1.").append(minor);
        }
        kit.wish(wishes[0].toString());
        kit.wish(wishes[1].toString());
        kit.pin(11, "9.0");
        Kit.same("core of " + first + " and " + second, kit.x.core(), core);
        Kit.same("proof of " + first + " and " + second, kit.x.proof(), proof);
    }
}
