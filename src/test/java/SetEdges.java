/** Edges of the sections 5 and 7 and of the promises 21 to 28: sets that fit, and why. */
final class SetEdges {
    private static final Class<IndexOutOfBoundsException> INDEX = IndexOutOfBoundsException.class;

    private SetEdges() {}

    static void all() {
        order();
        better();
        changesOfSets();
        leastChanged();
        solve();
        versionOf();
        changes();
        must();
        fitting();
        because();
        far();
        reached();
        reachedStepByStep();
        hashes();
    }

    /** Packages of which each has 1.0 and 2.0. */
    private static Kit pairs(int packs) {
        Kit kit = Kit.of(packs);
        for (int p = 0; p < packs; p++) {
            kit.v(p, 10099, 20099);
        }
        return kit;
    }

    /** Packages of which each has 1.0 alone. */
    private static Kit ones(int packs) {
        Kit kit = Kit.of(packs);
        for (int p = 0; p < packs; p++) {
            kit.v(p, 10099);
        }
        return kit;
    }

    private static String letter(int pack) {
        return "" + (char) ('a' + pack);
    }

    private static void solved(Kit kit, String what, String goal) {
        kit.x.solve(false);
        Kit.same(what, kit.goal(), goal);
    }

    private static void least(Kit kit, String what, String goal) {
        kit.x.solve(true);
        Kit.same(what, kit.goal(), goal);
    }

    // ---- Section 5

    private static void order() {
        Edge.of("5", "first those that stand in wishes, each where it stands first (wishes by their "
                + "numbers, each from the left to the right), then the others by their numbers.")
                .holds(() -> {
            // Just one of all four can be 2.0.
            Kit kit = pairs(4);
            kit.ban(0, 20099, "b 2.0");
            kit.ban(0, 20099, "c 2.0");
            kit.ban(1, 20099, "c 2.0");
            kit.ban(1, 20099, "d 2.0");
            kit.ban(2, 20099, "d 2.0");
            kit.ban(3, 20099, "a 2.0");
            kit.wish("c|a");
            kit.wish("b|c|d");
            solved(kit, "c is first, then a, b, d", "10099 10099 20099 10099");
            kit.x.unwish(0);
            solved(kit, "b is first, a does not come", "- 20099 10099 10099");
            kit.wish("d 1.0|a|d");
            kit.x.unwish(1);
            solved(kit, "d is first, then a", "10099 - - 20099");
            kit.wish("a|b");
            solved(kit, "d, a, b", "10099 10099 - 20099");
            kit.x.unwish(2);
            kit.wish("c");
            solved(kit, "a, b, c", "20099 10099 10099 -");
        });
        Edge.of("5", "If all versions are the same, that is ahead in which, at the first package (by "
                + "numbers) at which they differ, the option is off.").holds(() -> {
            for (int on = 0; on < 8; on++) {
                Kit kit = ones(3);
                for (int p = 0; p < 3; p++) {
                    kit.option(p, 10099, "a");
                    kit.wish(letter(p) + ((on >> p & 1) != 0 ? "#" : ""));
                }
                solved(kit, "on where it is wished alone", "10099" + ((on & 1) != 0 ? "+" : "")
                        + " 10099" + ((on & 2) != 0 ? "+" : "") + " 10099" + (on > 3 ? "+" : ""));
                Kit.same("all of these fit", kit.x.fitting(), 8 >> Integer.bitCount(on));
            }
        });
        Edge.of("5", "The newest set is the one of those that fit that is ahead of all others.")
                .holds(() -> {
            Kit kit = pairs(3);
            solved(kit, "without wishes", "- - -");
            kit.wish("a|b|c");
            solved(kit, "all newest", "20099 20099 20099");
            kit.pin(1, "7.0");
            solved(kit, "but one", "20099 - 20099");
        });
    }

    private static void better() {
        Edge.of("5", "of a package that stands in a wish a newer version is better than an older one, "
                + "and any version than none;").holds(() -> {
            Kit kit = Kit.of(2).v(0, 1, 99).v(1, 1);
            kit.wish("a|b");
            solved(kit, "the newer one, and the oldest than none", "99 1");
            kit.pin(0, "0.0!1");
            kit.x.unwish(0);
            kit.wish("b 0.0!1|a");
            solved(kit, "the oldest than none", "1 1");
            kit.ban(1, 1, "a 0.0!1");
            solved(kit, "b is first", "- 1");
        });
        Edge.of("5", "of another one none is better than any version, and a newer version than an older "
                + "one.").holds(() -> {
            Kit kit = pairs(4);
            kit.need(0, 20099, "c|d");
            kit.wish("a");
            solved(kit, "no b, no c, the newest d", "20099 - - 20099");
            kit.ban(3, 20099, "a");
            solved(kit, "the next older one", "20099 - - 10099");
            kit.ban(3, 10099, "a");
            solved(kit, "no d, the newest c", "20099 - 20099 -");
            kit.ban(2, 20099, "a");
            kit.ban(2, 10099, "a");
            solved(kit, "neither", "10099 - - -");
        });
        Edge.of("5", "Of two sets that is ahead which is better at the first package at which they have "
                + "unlike versions:").holds(() -> {
            Kit kit = pairs(3);
            kit.ban(0, 20099, "b");
            kit.ban(0, 20099, "c");
            kit.wish("a|b|c");
            solved(kit, "a newer a, though two packages are lost", "20099 - -");
            kit.x.unwish(0);
            kit.wish("b|a|c");
            solved(kit, "b is first", "10099 20099 20099");
        });
    }

    private static void changesOfSets() {
        Edge.of("5", "The changes between two sets are the packages of which they have unlike versions, "
                + "or the option on in just one of them.").holds(() -> {
            String[] wishes = {"b", "a 1.0", "a 2.0", "a# 1.0", "a# 2.0"};
            for (String wish : wishes) {
                for (String other : wishes) {
                    Kit kit = Kit.of(2).v(0, 10099, 20099);
                    kit.x.provide(0, 10099, 1, 10099);
                    kit.x.provide(0, 20099, 1, 10099);
                    kit.option(0, 10099, "a");
                    kit.option(0, 20099, "a");
                    kit.pin(0, wish.equals("b") ? "2.0" : "*");
                    kit.wish(wish);
                    kit.x.solve(false);
                    kit.x.lock(0);
                    kit.x.unwish(0);
                    kit.pin(0, other.equals("b") ? "2.0" : "*");
                    kit.wish(other);
                    kit.x.solve(false);
                    kit.x.lock(1);
                    boolean isLike = wish.replace("b", "a 2.0").equals(other.replace("b", "a 2.0"));
                    Kit.same(wish + " and " + other, kit.x.lockDiffers(0, 1), isLike ? 0 : 1);
                    Kit.same("from nothing", kit.x.lockDiffers(1, 2), 1);
                }
            }
        });
    }

    private static void leastChanged() {
        Edge.of("5", "The least changed set is the one of those that fit with the fewest changes from "
                + "what is installed, of several the one that is ahead.").holds(() -> {
            Kit kit = pairs(3);
            Kit.same("none", kit.x.solve(true), 0);
            kit.wish("a|b");
            least(kit, "one: a is ahead of b", "20099 - -");
            kit.x.install();
            kit.pin(0, "1.0");
            kit.wish("b|c");
            least(kit, "a older, and b", "10099 20099 -");
            kit.x.unwish(0);
            least(kit, "a stands in no wish", "- 20099 -");
            kit.pin(0, "");
            least(kit, "a may stay", "20099 20099 -");
            kit.pin(1, "7.0");
            least(kit, "or c", "20099 - 20099");
            // a 2.0 with d and b, or with c, d and one of b and e.
            Kit fewer = Kit.of(5).v(0, 10099, 20099).v(1, 10099).v(2, 10099).v(3, 10099).v(4, 10099);
            fewer.wish("a 1.0");
            fewer.install();
            fewer.need(3, 10099, "c|b");
            fewer.need(2, 10099, "a|e");
            fewer.need(2, 10099, "e|b");
            fewer.ban(3, 10099, "d");
            fewer.need(2, 10099, "d");
            fewer.need(0, 20099, "c|d");
            fewer.x.unwish(0);
            fewer.wish("a 2.0");
            least(fewer, "three changes, not four", "20099 10099 - 10099 -");
            fewer.pin(1, "7.0");
            least(fewer, "four", "20099 - 10099 10099 10099");
        });
    }

    // ---- Promises 21 to 26

    private static void solve() {
        Edge.of("P21", "if no set fits, the goal stays.").holds(() -> {
            for (boolean isLeast : new boolean[] {false, true}) {
                Kit kit = ones(2);
                kit.wish("a");
                kit.x.solve(isLeast);
                kit.wish("b 2.0");
                int undoable = kit.x.count(7);
                Kit.same("none", kit.x.solve(isLeast), -1);
                Kit.same("stays", kit.goal(), "10099 -");
                Kit.same("is a change", kit.x.count(7), undoable + 1);
            }
        });
        Edge.of("P21", "- `isLeast`: whether it is the least changed one").holds(() -> {
            Kit kit = pairs(2);
            kit.wish("a");
            kit.pin(0, "1.0");
            kit.install();
            kit.pin(0, "");
            least(kit, "1.0 may stay", "10099 -");
            solved(kit, "2.0 is newer", "20099 -");
        });
        Edge.of("P21", "Returns the number of packages of the goal;").holds(() -> {
            for (int packs = 0; packs <= 12; packs++) {
                Kit kit = ones(packs);
                for (int p = 0; p < packs; p++) {
                    kit.option(p, 10099, "a");
                    if (p % 2 == 0) {
                        kit.wish(letter(p) + "#");
                        if (p + 1 < packs) {
                            kit.need(p, 10099, letter(p + 1));
                        }
                    }
                }
                Kit.same("packages, not options", kit.x.solve(packs % 2 == 0), packs);
            }
        });
        Edge.of("P21", "NONE if no set fits.").holds(() -> {
            Kit kit = Kit.of(1);
            kit.wish("a");
            Kit.same("newest", kit.x.solve(false), -1);
            Kit.same("least", kit.x.solve(true), -1);
            kit.x.unwish(0);
            Kit.same("the empty set fits", kit.x.solve(false) + kit.x.solve(true), 0);
        });
    }

    private static void versionOf() {
        Edge.of("P22", "Returns its code;", "NONE if the goal has none.").holds(() -> {
            Kit kit = Kit.of(2).v(0, 1, 999999);
            Kit.same("at first", kit.x.versionOf(0), -1);
            kit.wish("a");
            kit.x.solve(false);
            Kit.same("the greatest", kit.x.versionOf(0), 999999);
            Kit.same("not in it", kit.x.versionOf(1), -1);
            kit.pin(0, "0.0!1");
            kit.wish("a 0.0!1");
            kit.x.unwish(0);
            kit.x.solve(false);
            Kit.same("the least", kit.x.versionOf(0), 1);
        });
        Edge.of("P22", "- `pack`: number of a package",
                "Throws `IndexOutOfBoundsException` if there is no such package").holds(() -> {
            Kit kit = ones(12);
            kit.wish("l");
            kit.x.solve(false);
            Kit.same("the last", kit.x.versionOf(11), 10099);
            kit.noPackage("versionOf", kit.x::versionOf);
            kit.x.backTo(-1);
            kit.noPackage("versionOf", kit.x::versionOf);
            Kit none = new Kit();
            none.noPackage("versionOf", none.x::versionOf);
        });
        Edge.of("P23", "Returns true if it is.").holds(() -> {
            Kit kit = ones(12);
            kit.option(11, 10099, "l");
            Kit.same("no goal", kit.x.isOn(11), false);
            kit.wish("l");
            kit.x.solve(false);
            Kit.same("off", kit.x.isOn(11), false);
            kit.wish("l#");
            kit.x.solve(false);
            Kit.same("on", kit.x.isOn(11), true);
            Kit.same("not in the goal", kit.x.isOn(0), false);
            kit.x.install();
            kit.x.backTo(-1);
            Kit.same("not what is installed", kit.x.isOn(11), false);
        });
        Edge.of("P23", "- `pack`: number of a package",
                "Throws `IndexOutOfBoundsException` if there is no such package").holds(() -> {
            Kit kit = ones(12);
            kit.noPackage("isOn", kit.x::isOn);
            Kit one = ones(1);
            one.noPackage("isOn", one.x::isOn);
            Kit none = new Kit();
            none.noPackage("isOn", none.x::isOn);
        });
    }

    private static void changes() {
        Edge.of("P24", "Returns how many there are.").holds(() -> {
            Kit all = ones(12);
            Kit.same("none", all.x.changes(), 0);
            for (int p = 0; p < 11; p++) {
                all.need(p, 10099, letter(p + 1));
            }
            all.wish("a");
            all.x.solve(false);
            Kit.same("all", all.x.changes(), 12);
            all.x.install();
            Kit.same("none", all.x.changes(), 0);
            all.x.backTo(-1);
            Kit.same("all", all.x.changes(), 12);
            all.x.install();
            Kit one = ones(1);
            one.option(0, 10099, "a");
            one.wish("a");
            one.install();
            one.wish("a#");
            one.x.solve(false);
            Kit.same("an option alone", one.x.changes(), 1);
        });
    }

    private static void must() {
        Edge.of("P25", "Returns 1 if it is in all of them, -1 if it is in none of them, otherwise 0; -2 "
                + "if no set fits.").holds(() -> {
            Kit kit = pairs(2);
            Kit.same("in one at least", kit.x.must(0, 10099), 0);
            kit.wish("a 1.0");
            Kit.same("in all", kit.x.must(0, 10099), 1);
            Kit.same("in none", kit.x.must(0, 20099), -1);
            Kit.same("in some", kit.x.must(1, 20099), 0);
            Kit.same("in one alone", kit.x.fitting(), 3);
            kit.x.hold(1, true);
            Kit.same("the only set", kit.x.must(0, 10099), 1);
            Kit.same("not in the only set", kit.x.must(1, 10099), -1);
            kit.wish("a 2.0");
            Kit.same("no set", kit.x.must(0, 10099), -2);
            Kit.same("no set", kit.x.must(1, 10099), -2);
        });
        Edge.of("P25", "- `pack`: number of a package", "- `code`: code of a version of it",
                "Throws `IndexOutOfBoundsException` if there is no such package or version").holds(() -> {
            Kit kit = Kit.of(2).v(0, 10099).v(1, 20099);
            kit.noPackage("must", pack -> kit.x.must(pack, 10099));
            for (int code : new int[] {20099, 10098, 0, -1, Integer.MIN_VALUE, Integer.MAX_VALUE}) {
                kit.unread("code " + code, INDEX, () -> kit.x.must(0, code));
            }
            kit.wish("a 2.0");
            kit.unread("also if no set fits", INDEX, () -> kit.x.must(0, 20099));
            Kit.same("no set fits", kit.x.must(1, 20099), -2);
        });
    }

    private static void fitting() {
        Edge.of("P26", "of each package each version or none, and of each package that has an option "
                + "this off or on.", "Returns how many there are;").holds(() -> {
            Kit kit = new Kit();
            Kit.same("the empty set", kit.x.fitting(), 1);
            kit.x.pack();
            Kit.same("without versions", kit.x.fitting(), 1);
            kit.v(0, 10099, 20099);
            Kit.same("each version or none", kit.x.fitting(), 3);
            kit.option(0, 20099, "a");
            Kit.same("2.0 off or on", kit.x.fitting(), 4);
            kit.wish("a#");
            Kit.same("2.0 on", kit.x.fitting(), 1);
            kit.wish("a 1.0");
            Kit.same("none", kit.x.fitting(), 0);
        });
        Edge.of("P26", "NONE if there are more than 5000 sets to go through.").holds(() -> {
            Kit kit = Kit.of(5);
            for (int p = 0; p < 4; p++) {
                kit.v(p, 199, 299, 399, 499);
            }
            kit.v(4, 199, 299, 399);
            kit.option(4, 299, "e");
            Kit.same("5 * 5 * 5 * 5 * 4 * 2, but those of an option alone", kit.x.fitting(), 625 * 5);
            kit.wish("e# 7.0");
            Kit.same("though none fits", kit.x.fitting(), 0);
            kit.v(4, 499);
            Kit.same("more", kit.x.fitting(), -1);
            Kit plain = Kit.of(5);
            for (int p = 0; p < 4; p++) {
                plain.v(p, 199, 299, 399, 499);
            }
            plain.v(4, 199, 299, 399, 499, 599, 699, 799);
            Kit.same("5000", plain.x.fitting(), 5000);
            // The next number that can be: 2 * 3 * 4 * 5 * 6 * 7 = 5040.
            Kit next = Kit.of(6);
            for (int p = 0; p < 6; p++) {
                for (int k = 0; k <= p; k++) {
                    next.v(p, 199 + 100 * k);
                }
            }
            Kit.same("5040", next.x.fitting(), -1);
            next.x.undo();
            Kit.same("4320", next.x.fitting(), 4320);
            plain.x.pack();
            Kit.same("5000 with a package without versions", plain.x.fitting(), 5000);
            plain.v(5, 99);
            Kit.same("twice 5000", plain.x.fitting(), -1);
        });
    }

    // ---- Promises 27 and 28, and section 7

    /** A row of packages each of which needs the next one; the first one is wished. */
    private static Kit chain(int packs) {
        Kit kit = ones(packs);
        for (int p = 0; p + 1 < packs; p++) {
            kit.need(p, 10099, letter(p + 1));
        }
        kit.wish("a");
        kit.x.solve(false);
        return kit;
    }

    private static void because() {
        Edge.of("P27", "Returns 100 plus the number of the wish, or the number of the package that is the "
                + "reason;").holds(() -> {
            Kit kit = ones(8);
            for (int p = 7; p >= 0; p--) {
                kit.wish(letter(p));
            }
            kit.x.solve(false);
            Kit.same("wishes", kit.row(8, kit.x::because), "107 106 105 104 103 102 101 100");
            Kit chain = chain(12);
            Kit.same("packages", chain.row(12, chain.x::because), "100 0 1 2 3 4 5 6 7 8 9 10");
        });
        Edge.of("P27", "NONE if it is not in the goal, or not reached.").holds(() -> {
            Kit kit = ones(2);
            Kit.same("no goal", kit.row(2, kit.x::because), "-1 -1");
            kit.wish("a");
            kit.x.solve(false);
            Kit.same("b is not in it", kit.row(2, kit.x::because), "100 -1");
            kit.wish("b");
            Kit.same("b is not in it, though wished", kit.row(2, kit.x::because), "100 -1");
            kit.x.unwish(0);
            Kit.same("a is not reached", kit.row(2, kit.x::because), "-1 -1");
        });
        Edge.of("P27", "- `pack`: number of a package",
                "Throws `IndexOutOfBoundsException` if there is no such package").holds(() -> {
            Kit kit = ones(12);
            kit.noPackage("because", kit.x::because);
            Kit.same("the last", kit.x.because(11), -1);
            Kit none = new Kit();
            none.noPackage("because", none.x::because);
        });
    }

    private static void far() {
        Edge.of("P28", "Returns how far it is;").holds(() -> {
            Kit kit = chain(12);
            Kit.same("far", kit.row(12, kit.x::far), "1 2 3 4 5 6 7 8 9 10 11 12");
        });
        Edge.of("P28", "NONE if it is not in the goal, or not reached.").holds(() -> {
            Kit kit = chain(3);
            kit.v(0, 20099);
            kit.x.solve(false);
            Kit.same("not in the goal", kit.row(3, kit.x::far), "1 -1 -1");
            kit.x.undo();
            kit.x.undo();
            kit.x.unwish(0);
            Kit.same("not reached", kit.row(3, kit.x::far), "-1 -1 -1");
        });
        Edge.of("P28", "- `pack`: number of a package",
                "Throws `IndexOutOfBoundsException` if there is no such package").holds(() -> {
            Kit kit = ones(12);
            kit.noPackage("far", kit.x::far);
            Kit.same("the last", kit.x.far(11), -1);
            Kit none = new Kit();
            none.noPackage("far", none.x::far);
        });
    }

    private static void reached() {
        Edge.of("7", "by the first wish (by numbers) of which a version of theirs meets an atom;")
                .holds(() -> {
            Kit kit = pairs(2);
            kit.x.provide(1, 20099, 0, 30099);
            kit.wish("a 1.0|b 1.0");
            kit.x.unwish(0);
            kit.wish("a 1.0|b");
            kit.wish("a 3.0|a 2.0");
            kit.wish("a|b");
            kit.x.solve(false);
            Kit.same("goal", kit.goal(), "20099 20099");
            Kit.same("a by the second, b by the first", kit.row(2, kit.x::because), "102 101");
            kit.x.unwish(1);
            Kit.same("b by what it provides", kit.row(2, kit.x::because), "102 102");
            kit.x.unwish(2);
            Kit.same("by the last", kit.row(2, kit.x::because), "103 103");
        });
        Edge.of("7", "this is 1 far.").holds(() -> {
            Kit kit = ones(8);
            for (int p = 0; p < 8; p++) {
                kit.need(p, 10099, letter((p + 1) % 8));
                kit.wish(letter(p));
            }
            kit.x.solve(false);
            Kit.same("all", kit.row(8, kit.x::far), "1 1 1 1 1 1 1 1");
        });
        Edge.of("7", "An orphan is an installed package that is not reached.").holds(() -> {
            Kit kit = chain(12);
            Kit.same("none installed", kit.x.orphans(), 0);
            kit.x.install();
            Kit.same("all are reached", kit.x.orphans(), 0);
            kit.x.backTo(-1);
            Kit.same("whatever the goal is", kit.x.orphans(), 0);
            kit.x.unwish(0);
            Kit.same("none is reached", kit.x.orphans(), 4095);
            kit.wish("l");
            Kit.same("the last one is", kit.x.orphans(), 2047);
            kit.x.root(1);
            Kit.same("none installed there", kit.x.orphans(), 0);
        });
        Edge.of("7", "In the goal, and likewise in what is installed, packages are reached so:")
                .holds(() -> {
            Kit kit = chain(3);
            kit.x.install();
            kit.v(0, 20099);
            kit.x.solve(false);
            Kit.same("in the goal", kit.row(3, kit.x::far), "1 -1 -1");
            Kit.same("in what is installed", kit.x.orphans(), 0);
            kit.x.install();
            kit.x.backTo(0);
            Kit.same("in the goal", kit.row(3, kit.x::far), "1 2 3");
        });
    }

    private static void reachedStepByStep() {
        Edge.of("7", "Then those are reached, step by step, that are not reached yet, and of which the "
                + "version meets an atom of a need, or of the need of an option that is on, of one that "
                + "was reached in the step ahead;").holds(() -> {
            Kit kit = ones(4);
            kit.option(0, 10099, "b");
            kit.need(1, 10099, "c 2.0|c 1.0|d 2.0");
            kit.wish("a");
            kit.wish("b|c|d");
            kit.x.solve(false);
            Kit.same("goal", kit.goal(), "10099 10099 10099 10099");
            kit.x.unwish(1);
            Kit.same("the option is off", kit.row(4, kit.x::far), "1 -1 -1 -1");
            kit.wish("a#");
            kit.wish("b|c|d");
            kit.x.solve(false);
            kit.x.unwish(3);
            Kit.same("it is on; no version of d meets an atom", kit.row(4, kit.x::far), "1 2 3 -1");
        });
        Edge.of("7", "the least one of these is the reason;").holds(() -> {
            Kit kit = ones(5);
            kit.need(1, 10099, "a");
            kit.need(2, 10099, "a");
            kit.need(3, 10099, "b|e");
            kit.need(0, 10099, "e");
            kit.wish("d");
            kit.wish("c");
            kit.x.solve(false);
            Kit.same("goal", kit.goal(), "10099 - 10099 10099 10099");
            Kit.same("e: d is nearer than a, though a is less", kit.x.because(4), 3);
            kit.wish("b");
            kit.x.solve(false);
            Kit.same("a: the least of b and c", kit.x.because(0), 1);
        });
        Edge.of("7", "they are one farther than it.").holds(() -> {
            Kit kit = ones(5);
            kit.need(4, 10099, "d");
            kit.need(3, 10099, "c");
            kit.need(2, 10099, "b");
            kit.need(1, 10099, "a|e");
            kit.need(4, 10099, "a");
            kit.wish("e");
            kit.x.solve(false);
            Kit.same("far", kit.row(5, kit.x::far), "2 4 3 2 1");
            Kit.same("because", kit.row(5, kit.x::because), "4 2 3 4 100");
        });
    }

    private static void hashes() {
        Edge.of("7", "(Where a need has a \"#\", only versions of the package itself count here and in "
                + "section 9, and whether the option is on does not matter.)").holds(() -> {
            Kit kit = ones(3);
            kit.option(0, 10099, "a");
            kit.x.provide(1, 10099, 0, 10099);
            kit.wish("a");
            kit.wish("b");
            kit.wish("c");
            kit.x.solve(false);
            Kit.same("a is off", kit.goal(), "10099 10099 10099");
            kit.x.unwish(0);
            kit.x.unwish(1);
            kit.wish("a#");
            Kit.same("wish: a though off, not b", kit.row(3, kit.x::because), "103 -1 102");
            kit.x.unwish(3);
            kit.ahead(2, 10099, "a#");
            Kit.same("need: a though off, not b", kit.row(3, kit.x::because), "2 -1 102");
            Kit.same("scripts: a alone is ahead of c", kit.scripts(), "0 1 2");
            kit.ahead(0, 10099, "b");
            Kit.same("scripts: b ahead of a", kit.scripts(), "1 0 2");
            kit.ahead(1, 10099, "c");
            Kit.same("ring: a ahead of c, though off", kit.scripts(), "0 2 1");
            Kit.same("ring", kit.x.scripts(), -3);
        });
    }
}
