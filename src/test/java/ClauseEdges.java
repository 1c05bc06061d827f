/** Edges of section 6 and of the promises 29 to 33: told clauses, the core, the proof. */
final class ClauseEdges {
    private static final Class<IndexOutOfBoundsException> INDEX = IndexOutOfBoundsException.class;
    private static final Class<IllegalArgumentException> ARGUMENT = IllegalArgumentException.class;

    private ClauseEdges() {}

    static void all() {
        wishes();
        holds();
        heldOptions();
        pins();
        needs();
        bans();
        options();
        pairs();
        clauses();
        theCore();
        joined();
        joinedOrder();
        fullProof();
        core();
        coreAt();
        proof();
        proofAt();
        literalAt();
    }

    /** What coreAt tells of the core: numbers; kinds; wishes or packages; versions; literals. */
    private static void core(Kit kit, String what, String... due) {
        for (int k = 0; k < due.length; k++) {
            Kit.same(what + ", coreAt(.., " + k + ")", kit.core(k), due[k]);
        }
    }

    // ---- Section 6: the told clauses

    private static void wishes() {
        Edge.of("6", "of each wish, by numbers:").holds(() -> {
            Kit kit = Kit.of(2);
            for (int w = 0; w < 8; w++) {
                kit.wish("b");
            }
            core(kit, "the first one cannot be met", "0", "0", "0", "-1", "0");
            for (int w = 0; w < 7; w++) {
                kit.x.unwish(w);
                core(kit, "now another one is the first", "0", "0", "" + (w + 1), "-1", "0");
            }
            kit.x.root(1);
            core(kit, "no wish in another root", "");
            Kit.same("told there", kit.x.count(4), 2);
        });
        Edge.of("6", "its clause;").holds(() -> {
            Kit kit = Kit.of(2).v(0, 10099);
            kit.wish("a|b|a");
            kit.wish("b");
            Kit.same("one each", kit.x.count(4), 4);
            core(kit, "the second one has no literal", "1", "0", "1", "-1", "0");
        });
        Edge.of("6", "if it has a \"#\", this is that of versions, and a second one follows:",
                "the option of the package (kind 0);").holds(() -> {
            Kit kit = Kit.of(1).v(0, 10099);
            kit.wish("a#");
            Kit.same("two, and no option", kit.x.count(4), 3);
            core(kit, "the option cannot be", "1 2", "0 6", "0 0", "-1 -1", "1 1");
            kit.wish("a# 7.0");
            Kit.same("two more", kit.x.count(4), 5);
            core(kit, "no version", "2", "0", "1", "-1", "0");
            kit.x.unwish(0);
            kit.x.unwish(1);
            Kit.same("none", kit.x.count(4), 1);
        });
    }

    private static void holds() {
        Edge.of("6", "of each package with a hold, by numbers:").holds(() -> {
            Kit kit = Kit.of(3).v(0, 10099).v(1, 10099).v(2, 10099);
            kit.x.hold(2, true);
            kit.x.hold(0, true);
            kit.wish("c");
            core(kit, "a, then c", "0 2", "0 1", "0 2", "-1 -1", "1 1");
            kit.wish("a");
            kit.x.unwish(0);
            core(kit, "a", "0 1", "0 1", "1 0", "-1 -1", "1 1");
            kit.x.hold(0, false);
            core(kit, "no hold of a", "");
        });
        Edge.of("6", "if none is, not each of its versions, one clause each, from the oldest (kind 1);")
                .holds(() -> {
            Kit kit = Kit.of(2);
            Kit.same("no options", kit.x.count(4), 2);
            kit.x.hold(0, true);
            Kit.same("no versions, no clause", kit.x.count(4), 2);
            kit.v(0, 30099, 10099, 20098);
            Kit.same("three, and three pairs", kit.x.count(4), 8);
            int[] minor = {1, 2, 3};
            for (int k : minor) {
                int wish = kit.wish(k == 2 ? "a 2.0!98" : "a " + k + ".0");
                core(kit, "the one of " + k, "0 " + k, "0 1", wish + " 0", "-1 -1", "1 1");
                kit.x.unwish(wish);
            }
        });
    }

    private static Kit withInstalledOption(boolean isOn) {
        Kit kit = Kit.of(2).v(0, 10099).v(1, 10099);
        kit.option(0, 10099, "b");
        kit.wish(isOn ? "a#" : "a");
        kit.install();
        kit.x.unwish(0);
        kit.x.hold(0, true);
        return kit;
    }

    private static void heldOptions() {
        Edge.of("6", "if a version is installed, this version, and then the option or not the option, as "
                + "it is installed (two clauses, also if no version of the package has an option);")
                .holds(() -> {
            Kit off = withInstalledOption(false);
            // 0 a, 1 not its option, 2 the need of the option, 3 and 4 options.
            Kit.same("two clauses", off.x.count(4), 5);
            off.wish("a#");
            core(off, "it must stay off", "1 3", "0 1", "1 0", "-1 -1", "1 1");
            off.x.unwish(1);
            off.pin(0, "7.0");
            core(off, "it must stay", "0 2", "1 2", "0 0", "-1 -1", "1 1");
            Kit on = withInstalledOption(true);
            on.pin(1, "7.0");
            // 0 a, 1 its option, 2 not b, 3 the need of the option.
            core(on, "it must stay on", "0 1 2 3", "1 1 2 5", "0 0 1 0", "-1 -1 -1 10099", "1 1 1 3");
            Kit none = Kit.of(1).v(0, 10099);
            none.wish("a");
            none.install();
            Kit.same("a wish, no option", none.x.count(4), 2);
            none.x.hold(0, true);
            Kit.same("two more, though there is no option", none.x.count(4), 4);
            none.wish("a#");
            core(none, "not the option", "2 4", "0 1", "1 0", "-1 -1", "1 1");
        });
    }

    private static void pins() {
        Edge.of("6", "of each package with a pin, by numbers:").holds(() -> {
            Kit kit = Kit.of(3).v(0, 10099).v(1, 10099).v(2, 10099);
            kit.pin(2, "7.0");
            kit.pin(0, "7.0");
            kit.wish("c");
            core(kit, "a, then c", "0 2", "0 2", "0 2", "-1 -1", "1 1");
        });
        Edge.of("6", "not each of its versions that does not meet the range, one clause each, from the "
                + "oldest (kind 2);").holds(() -> {
            Kit kit = Kit.of(1).v(0, 30099, 20099, 10005, 10099);
            Kit.same("six pairs, no option", kit.x.count(4), 7);
            kit.pin(0, "*,1.0!5");
            Kit.same("all meet it", kit.x.count(4), 7);
            kit.pin(0, "*");
            Kit.same("but the trial", kit.x.count(4), 8);
            kit.pin(0, "2.0");
            Kit.same("but three", kit.x.count(4), 10);
            String[] texts = {"1.0!5", "1.0", "3.0"};
            for (int k = 0; k < 3; k++) {
                int wish = kit.wish("a " + texts[k]);
                core(kit, texts[k], "0 " + (k + 1), "0 2", wish + " 0", "-1 -1", "1 1");
                kit.x.unwish(wish);
            }
            kit.pin(0, "7.0");
            Kit.same("none meets it", kit.x.count(4), 11);
        });
    }

    private static void needs() {
        Edge.of("6", "of each package, by numbers:", "of each of its versions v, from the oldest:",
                "for each need:", "not v, or what meets the need (with \"#\":",
                "two, as of a wish) (kind 3);").holds(() -> {
            Kit kit = Kit.of(2).v(1, 10099).v(0, 20099, 10099);
            kit.need(1, 10099, "b");
            kit.need(0, 20099, "b 7.0");
            kit.need(0, 10099, "b");
            kit.need(0, 10099, "b#");
            kit.need(0, 10099, "a|b 7.0");
            kit.wish("a 1.0");
            // 0 wish, 1 to 4 a 1.0, 5 a 2.0, 6 a's option, 7 a's versions, 8 b 1.0, 9 b's option.
            Kit.same("told", kit.x.count(4), 10);
            core(kit, "the second one with #", "0 3 9", "0 3 6", "0 0 1", "-1 10099 -1", "1 2 1");
            kit.wish("a 2.0");
            kit.x.unwish(0);
            core(kit, "none can meet it", "0 5", "0 3", "1 0", "-1 20099", "1 1");
        });
    }

    private static void bans() {
        Edge.of("6", "for each ban:", "not v, or not w, for each other version w that meets it, by packages, "
                + "then from the oldest (kind 4);").holds(() -> {
            Kit kit = Kit.of(3).v(2, 10099).v(1, 20099, 10099).v(0, 20099, 10099);
            kit.x.provide(2, 10099, 1, 90099);
            kit.x.provide(0, 20099, 1, 90099);
            kit.x.provide(0, 10099, 1, 90099);
            int before = kit.x.count(4);
            kit.ban(0, 10099, "c 7.0");
            Kit.same("none meets it", kit.x.count(4), before);
            kit.ban(0, 10099, "b");
            Kit.same("four meet it, and itself", kit.x.count(4), before + 4);
            kit.wish("a 1.0");
            String[] texts = {"a 2.0", "b 1.0", "b 2.0", "c"};
            for (int k = 0; k < 4; k++) {
                int wish = kit.wish(texts[k]);
                core(kit, texts[k], "0 1 " + (2 + k), "0 0 4", "0 " + wish + " 0", "-1 -1 10099",
                        "1 1 2");
                kit.x.unwish(wish);
            }
        });
        Edge.of("6", "A version w that is v itself makes no clause of kind 4.").holds(() -> {
            Kit kit = Kit.of(2).v(0, 10099);
            kit.x.provide(0, 10099, 1, 10099);
            kit.ban(0, 10099, "a");
            kit.ban(0, 10099, "b");
            Kit.same("no options alone", kit.x.count(4), 2);
            kit.v(0, 20099);
            Kit.same("2.0, and a pair", kit.x.count(4), 4);
        });
    }

    private static void options() {
        Edge.of("6", "if it has the option:", "not v, or not the option, or what meets the need of the "
                + "option (with \"#\":", "two, as of a wish) (kind 5);").holds(() -> {
            Kit kit = Kit.of(2).v(0, 10099).v(1, 10099);
            kit.option(0, 10099, "b#");
            kit.wish("a#");
            // 0 and 1 wish, 2 and 3 need, 4 a's option, 5 b's option.
            Kit.same("told", kit.x.count(4), 6);
            core(kit, "b has none", "0 1 3 5", "0 0 5 6", "0 0 0 1", "-1 -1 10099 -1", "1 1 3 1");
            kit.pin(1, "7.0");
            core(kit, "no b", "0 1 2 3", "0 0 2 5", "0 0 1 0", "-1 -1 -1 10099", "1 1 1 3");
            Kit.same("its clause of versions", kit.x.count(4), 7);
        });
        Edge.of("6", "then, also if the package has no option:",
                "not the option, or those of its versions that have it (kind 6);").holds(() -> {
            Kit kit = Kit.of(12);
            Kit.same("one of each package", kit.x.count(4), 12);
            kit.v(11, 10099, 20099, 30099);
            kit.wish("l#");
            core(kit, "without the option", "1 13", "0 6", "0 11", "-1 -1", "1 1");
            kit.option(11, 10099, "l");
            kit.option(11, 30099, "l");
            kit.pin(11, "2.0");
            core(kit, "two have it", "1 2 3 17", "0 2 2 6", "0 11 11 11", "-1 -1 -1 -1", "1 1 1 3");
        });
    }

    private static void pairs() {
        Edge.of("6", "then of each two of its versions, the older ones first (v with w ahead of v with x, "
                + "if w is older than x):", "not v, or not w (kind 7).").holds(() -> {
            Kit kit = Kit.of(1);
            int[] codes = {40099, 20099, 30099, 10099};
            for (int k = 0; k < 4; k++) {
                kit.v(0, codes[k]);
                Kit.same("pairs, and no option", kit.x.count(4), 1 + k * (k + 1) / 2);
            }
            int number = 3;
            for (int v = 1; v <= 4; v++) {
                for (int w = v + 1; w <= 4; w++) {
                    int one = kit.wish("a " + w + ".0");
                    int other = kit.wish("a " + v + ".0");
                    core(kit, v + " and " + w, "0 1 " + number, "0 0 7", one + " " + other + " 0",
                            "-1 -1 " + (10000 * v + 99), "1 1 2");
                    kit.x.undo();
                    kit.x.undo();
                    number++;
                }
            }
            kit.v(0, 50099, 60099, 70099, 80099);
            Kit.same("of 8 versions", kit.x.count(4), 29);
        });
    }

    private static void clauses() {
        Edge.of("6", "The told clauses of the root at hand are numbered from 0, in this order:")
                .holds(() -> {
            Kit kit = Kit.of(1).v(0, 10099, 20099);
            kit.wish("a 1.0");
            kit.wish("a 2.0");
            core(kit, "of root 0", "0 1 3", "0 0 7");
            kit.x.root(1);
            core(kit, "of root 1", "");
            Kit.same("told", kit.x.count(4), 2);
            kit.wish("a 7.0");
            core(kit, "of root 1", "0", "0", "0");
        });
        Edge.of("6", "What meets a need is, in a clause, the set of all versions that meet one of its atoms "
                + "(with \"#\" just those of the package itself).").holds(() -> {
            Kit kit = Kit.of(3).v(0, 10099, 20099).v(1, 10099).v(2, 10099);
            kit.x.provide(1, 10099, 0, 30099);
            kit.pin(0, "7.0");
            kit.pin(1, "7.0");
            kit.pin(2, "7.0");
            String[] texts = {"a", "3", "a|a|a 1.0", "3", "a 3.0", "1", "a 3.0|b", "1", "a|c", "4",
                "c 1.0|b|a 2.0", "3", "a#", "2", "a# >2.0", "1", "a# 3.0", "0", "c 2.0", "0"};
            for (int k = 0; k < texts.length; k += 2) {
                int wish = kit.wish(texts[k]);
                Kit.same(texts[k], kit.x.coreAt(0, 4), Integer.parseInt(texts[k + 1]));
                Kit.same(texts[k], kit.x.core(), 1 + Integer.parseInt(texts[k + 1]));
                kit.x.undo();
                Kit.same("wish", wish, 0);
            }
        });
        Edge.of("6", "A clause that has a literal and not the same one, too, is a told clause as well.")
                .holds(() -> {
            Kit kit = Kit.of(1).v(0, 10099);
            Kit.same("no option", kit.x.count(4), 1);
            kit.need(0, 10099, "a");
            Kit.same("not a, or a", kit.x.count(4), 2);
            kit.option(0, 10099, "a#");
            Kit.same("two more", kit.x.count(4), 4);
            kit.wish("a 7.0");
            kit.wish("a");
            kit.x.unwish(0);
            Kit.same("it holds", kit.x.solve(false), 1);
        });
    }

    // ---- Section 6: the core and the proof

    private static void theCore() {
        Edge.of("6", "then, from the last one to the first, each one is left out if those that are left "
                + "still cannot hold together.").holds(() -> {
            Kit kit = Kit.of(1).v(0, 10099);
            kit.wish("a");
            kit.wish("a 1.0");
            kit.wish("a >0.5");
            kit.pin(0, "7.0");
            core(kit, "the first wish is left", "0 3", "0 2", "0 0");
            kit.wish("a 8.0");
            core(kit, "the empty clause alone", "3", "0", "3");
            kit.x.hold(0, true);
            kit.x.undo();
            kit.x.undo();
            kit.x.hold(0, true);
            core(kit, "the hold is ahead of the pin", "0 3", "0 1", "0 0");
            kit.x.unwish(0);
            kit.x.unwish(2);
            core(kit, "the second wish", "0 1", "0 1", "1 0");
        });
        Edge.of("6", "The core, if no set fits, is found so:", "all told clauses are taken;").holds(() -> {
            Kit kit = Kit.of(12);
            for (int p = 0; p < 11; p++) {
                kit.v(p, 10099);
                kit.need(p, 10099, "" + (char) ('b' + p));
            }
            kit.wish("a");
            // A wish; need and option of each package but the last one.
            Kit.same("told", kit.x.count(4), 1 + 2 * 11 + 1);
            core(kit, "a chain", "0 1 3 5 7 9 11 13 15 17 19 21", "0 3 3 3 3 3 3 3 3 3 3 3");
            kit.x.unwish(0);
            core(kit, "no core if a set fits", "");
        });
    }

    /** a or b; not a or b; not a or not b; not b or a. */
    private static Kit square() {
        Kit kit = Kit.of(2).v(0, 10099).v(1, 10099);
        kit.need(0, 10099, "b");
        kit.ban(0, 10099, "b");
        kit.need(1, 10099, "a");
        kit.wish("a|b");
        return kit;
    }

    private static void joined() {
        Edge.of("6", "The proof has rows:", "those of the core, in their order, and behind them rows that "
                + "are joined.").holds(() -> {
            Kit kit = square();
            core(kit, "core", "0 1 2 4", "0 3 4 3");
            Kit.same("row 0", kit.proofRow(0), "-1 -1: 10099 1010099");
            Kit.same("row 1", kit.proofRow(1), "-1 -1: -10100 1010099");
            Kit.same("row 2", kit.proofRow(2), "-1 -1: -10100 -1010100");
            Kit.same("row 3", kit.proofRow(3), "-1 -1: 10099 -1010100");
            Kit.same("row 4 is joined", kit.x.proofAt(4, 1), 2);
        });
        Edge.of("6", "Two rows can be joined if there is exactly one version or option that one of them has "
                + "and the other one has with not;", "the joined row has all other literals of both.")
                .holds(() -> {
            Kit kit = square();
            Kit.same("rows", kit.x.proof(), 7);
            // 0 and 2, and 1 and 3, have two such: so 1 and 2, and 0 and 3.
            Kit.same("row 4", kit.proofRow(4), "1 2: -10100");
            Kit.same("row 5", kit.proofRow(5), "0 3: 10099");
            Kit.same("row 6", kit.proofRow(6), "4 5: ");
        });
        Edge.of("6", "At the end all rows that are not needed for the last one, directly or over others, are "
                + "left out;", "the others are numbered from 0.").holds(() -> {
            // 0 and 1 are joined first, to b; that is not needed, so not a is row 4.
            Kit kit = square();
            Kit.same("row 4", kit.proofRow(4), "1 2: -10100");
            Kit.same("the last one", kit.x.proofAt(kit.x.proof() - 1, 2), 0);
            for (int row = 0; row < 6; row++) {
                boolean isUsed = false;
                for (int later = row + 1; later < 7; later++) {
                    isUsed |= kit.x.proofAt(later, 0) == row || kit.x.proofAt(later, 1) == row;
                }
                Kit.same("row " + row + " is needed", isUsed, true);
            }
        });
    }

    private static void joinedOrder() {
        Edge.of("6", "that pair is joined whose joined row has the fewest literals, of several the one whose "
                + "later row is the earliest, of several the one whose earlier row is the earliest;",
                "until a row has no literal.").holds(() -> {
            // 0 a or b or c, 1 d, 2 not a or not d, 3 not b or not d, 4 not c or not d.
            Kit kit = Kit.of(4).v(0, 10099).v(1, 10099).v(2, 10099).v(3, 10099);
            for (int p = 0; p < 3; p++) {
                kit.ban(p, 10099, "d");
            }
            kit.wish("a|b|c");
            kit.wish("d");
            Kit.same("rows", kit.x.proof(), 11);
            Kit.same("the fewest, the earliest", kit.proofRow(5), "1 2: -10100");
            Kit.same("then the next ones", kit.proofRow(6), "1 3: -1010100");
            Kit.same("also with the latest row", kit.proofRow(7), "1 4: -2010100");
            Kit.same("two literals", kit.proofRow(8), "0 5: 1010099 2010099");
            Kit.same("one", kit.proofRow(9), "6 8: 2010099");
            Kit.same("none", kit.proofRow(10), "7 9: ");
            kit.index("nothing behind it", () -> kit.x.proofAt(11, 0));
        });
        Edge.of("6", "and whose joined row does not have all literals of some row that is there,")
                .holds(() -> {
            // 0 a, 1 not a or b, 2 not b or c, 3 not c or not a.
            Kit kit = Kit.of(3).v(0, 10099).v(1, 10099).v(2, 10099);
            kit.need(0, 10099, "b");
            kit.need(1, 10099, "c");
            kit.ban(2, 10099, "a");
            kit.wish("a");
            Kit.same("rows", kit.x.proof(), 8);
            Kit.same("b", kit.proofRow(4), "0 1: 1010099");
            Kit.same("b not again, nor not a or c, which has two", kit.proofRow(5), "0 3: -2010100");
            Kit.same("c", kit.proofRow(6), "2 4: 2010099");
            Kit.same("none", kit.proofRow(7), "5 6: ");
        });
    }

    private static void fullProof() {
        Edge.of("6", "If there would be more than 200 rows, there is no proof.").holds(() -> {
            WhyTest.groups(7, 13, 1, 94, 199);
            WhyTest.groups(5, 18, 0, 92, 200);
            WhyTest.groups(7, 13, 2, 95, -1);
        });
    }

    // ---- Promises 29 to 33

    private static void core() {
        Edge.of("P29", "0 if a set fits.").holds(() -> {
            Kit kit = new Kit();
            Kit.same("nothing is told", kit.x.core(), 0);
            kit.x.pack();
            kit.wish("a");
            Kit.same("one", kit.x.core(), 1);
            kit.v(0, 10099);
            Kit.same("a set fits", kit.x.core(), 0);
        });
        Edge.of("P29", "Returns how many there are;").holds(() -> {
            Kit kit = Kit.of(5);
            for (int k = 0; k < 40; k++) {
                kit.v(k / 8, 10099 + 100 * (k % 8));
            }
            kit.wish("a|b|c|d|e");
            for (int p = 0; p < 5; p++) {
                kit.pin(p, "7.0");
            }
            Kit.same("a wish, and each version is pinned away", kit.x.core(), 41);
        });
    }

    private static void coreAt() {
        Edge.of("P30", "- `place`: 0 for the first one",
                "Throws `IndexOutOfBoundsException` if there is no such place").holds(() -> {
            Kit kit = square();
            Kit.same("first", kit.x.coreAt(0, 0), 0);
            Kit.same("last", kit.x.coreAt(3, 0), 4);
            kit.outside("place", 0, 3, INDEX, place -> kit.x.coreAt(place, 0));
            kit.x.unwish(0);
            kit.outside("without a core", 0, -1, INDEX, place -> kit.x.coreAt(place, 0));
            kit.unread("without a core, and what", INDEX, () -> kit.x.coreAt(0, 5));
        });
        Edge.of("P30", "- `what`: 0 its number among the told clauses, 1 its kind, 2 the wish (kind 0), "
                + "otherwise the package, 3 the code of the version v (kinds 3, 4, 5, 7), otherwise NONE, 4 "
                + "how many literals it has", "Returns what is asked.").holds(() -> {
            // 0 a's wish, 1 and 2 b's, 3 not a 2.0, 4 a 1.0's need, 5 its ban, ..
            Kit kit = Kit.of(3).v(0, 10099, 20099).v(1, 10099).v(2, 10099);
            kit.need(0, 10099, "c");
            kit.ban(0, 10099, "c");
            kit.wish("a");
            kit.pin(0, "1.0");
            core(kit, "kinds 0, 2, 3, 4", "0 1 2 3", "0 2 3 4", "0 0 0 0", "-1 -1 10099 10099", "2 1 2 2");
            kit.x.unwish(0);
            kit.wish("b#");
            core(kit, "kinds 0, 6", "1 7", "0 6", "1 1", "-1 -1", "1 1");
            kit.option(1, 10099, "c 7.0");
            core(kit, "kinds 0, 5", "0 1 7", "0 0 5", "1 1 1", "-1 -1 10099", "1 1 2");
            kit.x.hold(1, true);
            core(kit, "kinds 0, 1", "0 2", "0 1", "1 1", "-1 -1", "1 1");
            Kit pair = Kit.of(2).v(1, 10099, 20099);
            pair.wish("b 2.0");
            pair.wish("b 1.0");
            core(pair, "kinds 0, 7", "0 1 4", "0 0 7", "0 1 1", "-1 -1 10099", "1 1 2");
        });
        Edge.of("P30", "Throws `IllegalArgumentException` if what is out of range").holds(() -> {
            Kit kit = square();
            kit.outside("what", 0, 4, ARGUMENT, what -> kit.x.coreAt(0, what));
            kit.outside("what", 0, 4, ARGUMENT, what -> kit.x.coreAt(3, what));
            kit.outside("what, and place", 0, 4, INDEX, what -> kit.x.coreAt(4, what));
        });
    }

    private static void proof() {
        Edge.of("P31", "0 if a set fits;").holds(() -> {
            Kit kit = square();
            Kit.same("rows", kit.x.proof(), 7);
            kit.x.unwish(0);
            Kit.same("a set fits", kit.x.proof(), 0);
            Kit.same("nothing is told", new Kit().x.proof(), 0);
        });
        Edge.of("P31", "NONE if there is no proof.").holds(() -> {
            WhyTest.groups(7, 13, 2, 95, -1);
            WhyTest.coreTooLarge();
        });
        Edge.of("P31", "Returns how many there are, those of the core that are needed among them;")
                .holds(() -> {
            Kit kit = Kit.of(1);
            kit.wish("a");
            Kit.same("the least", kit.x.proof(), 1);
            kit.v(0, 10099);
            kit.pin(0, "7.0");
            Kit.same("two of the core, and the last", kit.x.proof(), 3);
            WhyTest.groups(5, 18, 0, 92, 200);
        });
    }

    private static void proofAt() {
        Edge.of("P32", "- `row`: number of a row",
                "Throws `IndexOutOfBoundsException` if there is no such row").holds(() -> {
            Kit kit = square();
            Kit.same("first", kit.x.proofAt(0, 2), 2);
            Kit.same("last", kit.x.proofAt(6, 2), 0);
            kit.outside("row", 0, 6, INDEX, row -> kit.x.proofAt(row, 0));
            kit.unread("row and what", INDEX, () -> kit.x.proofAt(7, 3));
            kit.x.unwish(0);
            kit.outside("a set fits", 0, -1, INDEX, row -> kit.x.proofAt(row, 0));
        });
        Edge.of("P32", "- `what`: 0 the earlier row of which it was joined, 1 the later one (NONE if it is of "
                + "the core), 2 how many literals it has", "Returns what is asked.").holds(() -> {
            Kit kit = square();
            Kit.same("earlier", kit.row(7, row -> kit.x.proofAt(row, 0)), "-1 -1 -1 -1 1 0 4");
            Kit.same("later", kit.row(7, row -> kit.x.proofAt(row, 1)), "-1 -1 -1 -1 2 3 5");
            Kit.same("literals", kit.row(7, row -> kit.x.proofAt(row, 2)), "2 2 2 2 1 1 0");
        });
        Edge.of("P32", "Throws `IllegalArgumentException` if what is out of range").holds(() -> {
            Kit kit = square();
            kit.outside("what", 0, 2, ARGUMENT, what -> kit.x.proofAt(0, what));
            kit.outside("what", 0, 2, ARGUMENT, what -> kit.x.proofAt(6, what));
        });
    }

    /** Two rows: this wish can be met by one version alone, and this is pinned away. */
    private static String pinnedAway(int pack, int code, String text) {
        Kit kit = Kit.of(12).v(pack, code);
        kit.wish((char) ('a' + pack) + text);
        kit.pin(pack, "7.0");
        return kit.x.literalAt(0, 0) + " " + kit.x.literalAt(1, 0);
    }

    private static String withoutOption(int pack) {
        Kit kit = Kit.of(12).v(pack, 10099);
        kit.wish((char) ('a' + pack) + "#");
        return kit.x.literalAt(0, 0) + " " + kit.x.literalAt(1, 0);
    }

    private static void literalAt() {
        Edge.of("P33", "Returns 1000000 times the package plus the code of the version (or plus 0 for the "
                + "option);", "if it is one with not, the same below 0, less 1.").holds(() -> {
            Kit.same("least of a", pinnedAway(0, 1, "0.0!1"), "1 -2");
            Kit.same("greatest of a", pinnedAway(0, 999999, "99.99"), "999999 -1000000");
            Kit.same("least of l", pinnedAway(11, 1, "0.0!1"), "11000001 -11000002");
            Kit.same("greatest of l", pinnedAway(11, 999999, ""), "11999999 -12000000");
            Kit.same("option of a", withoutOption(0), "0 -1");
            Kit.same("option of l", withoutOption(11), "11000000 -11000001");
        });
        Edge.of("P33", "Returns a literal of a row of the proof, by packages, of a package first its versions "
                + "from the oldest, then its option.").holds(() -> {
            Kit kit = Kit.of(3).v(0, 20099, 10099).v(1, 10099).v(2, 20099, 10005);
            kit.option(0, 10099, "c 2.0|b|c 1.0!5|a 2.0");
            kit.wish("a# 1.0");
            kit.pin(0, "1.0");
            kit.pin(1, "7.0");
            kit.pin(2, "7.0");
            int row = kit.x.core() - 1;
            Kit.same("the need of the option", kit.x.coreAt(row, 1), 5);
            Kit.same("by packages", kit.proofRow(row),
                    "-1 -1: -10100 20099 -1 1010099 2010005 2020099");
        });
        Edge.of("P33", "- `row`: number of a row", "- `place`: 0 for the first literal",
                "Throws `IndexOutOfBoundsException` if there is no such row or literal").holds(() -> {
            Kit kit = square();
            for (int row = 0; row < 7; row++) {
                int number = row;
                int literals = row < 4 ? 2 : row < 6 ? 1 : 0;
                kit.outside("place", 0, literals - 1, INDEX, place -> kit.x.literalAt(number, place));
            }
            kit.outside("row", 0, 6, INDEX, row -> kit.x.literalAt(row, 0));
            kit.x.unwish(0);
            kit.outside("a set fits", 0, -1, INDEX, row -> kit.x.literalAt(row, 0));
        });
    }
}
