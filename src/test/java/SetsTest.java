/** Promises 21 to 28: the newest and the least changed set, what fits, and why. */
public final class SetsTest {
    private static final int MIN = Integer.MIN_VALUE;
    private static final int MAX = Integer.MAX_VALUE;

    public static void main(String[] args) {
        newest();
        newestOfOthers();
        options();
        needsOfItsOwn();
        bans();
        least();
        leastOfOptions();
        versionOfAndIsOn();
        changes();
        must();
        fitting();
        becauseAndFar();
        reachedByOption();
        Kit.end("SetsTest");
    }

    private static void newest() {
        Kit kit = Kit.of(3).v(0, 10099, 20099).v(1, 10099, 20099).v(2, 10099, 20099);
        kit.ban(1, 20099, "a >2.0");
        kit.ban(1, 20099, "c >2.0");
        kit.wish("c|b");
        kit.wish("a");
        Kit.same("solve", kit.x.solve(false), 3);
        Kit.same("c, then b, then a", kit.goal(), "20099 10099 20099");
        kit.x.unwish(0);
        kit.wish("b|c");
        kit.x.solve(false);
        Kit.same("a, then b, then c", kit.goal(), "20099 10099 20099");
        kit.x.unwish(1);
        kit.wish("a");
        kit.x.solve(false);
        Kit.same("b, then c, then a", kit.goal(), "10099 20099 10099");
        kit.wish("b 1.0");
        kit.x.solve(false);
        Kit.same("an older b", kit.goal(), "20099 10099 20099");
        kit.wish("b 2.0");
        Kit.same("none fits", kit.x.solve(false), -1);
        Kit.same("the goal stays", kit.goal(), "20099 10099 20099");
        kit.x.undo();
        kit.x.undo();
        Kit.same("solve(false) with none is a change", kit.x.solve(false), 3);
    }

    private static void newestOfOthers() {
        Kit kit = Kit.of(4).v(0, 10099, 20099).v(1, 10099, 20099).v(2, 10099, 20099).v(3, 10099);
        kit.need(0, 20099, "b|c|d");
        kit.need(0, 10099, "b");
        kit.wish("a");
        kit.x.solve(false);
        Kit.same("no b, no c, but d", kit.goal(), "20099 - - 10099");
        kit.ban(3, 10099, "a");
        kit.x.solve(false);
        Kit.same("no b, but the newest c", kit.goal(), "20099 - 20099 -");
        kit.ban(2, 20099, "a");
        kit.x.solve(false);
        Kit.same("no b, but an older c", kit.goal(), "20099 - 10099 -");
        Kit.same("trials are older", Kit.of(1).v(0, 10098).wish("a"), 0);
        Kit trials = Kit.of(1).v(0, 10098, 10099, 10001);
        trials.wish("a >1.0!1");
        trials.x.solve(false);
        Kit.same("the one without a trial number", trials.goal(), "10099");
    }

    private static void options() {
        Kit kit = Kit.of(3).v(0, 10099).v(1, 10099).v(2, 10099);
        kit.option(0, 10099, "c");
        kit.option(1, 10099, "a");
        kit.option(2, 10099, "b|c");
        kit.wish("a");
        kit.wish("b");
        kit.x.solve(false);
        Kit.same("options are off", kit.goal(), "10099 10099 -");
        kit.need(1, 10099, "a#");
        kit.x.solve(false);
        Kit.same("on where it is needed, with its need", kit.goal(), "10099+ 10099 10099");
        Kit.same("changes", kit.x.changes(), 3);
        Kit none = Kit.of(1).v(0, 10099);
        none.wish("a#");
        Kit.same("no option to be on", none.x.solve(false), -1);
        Kit.same("no set fits", none.x.fitting(), 0);
    }

    private static void needsOfItsOwn() {
        Kit kit = Kit.of(2).v(0, 10099, 20099);
        kit.need(0, 20099, "a 2.0|b");
        kit.x.provide(0, 10099, 1, 10099);
        kit.need(0, 10099, "b");
        kit.wish("a");
        kit.x.solve(false);
        Kit.same("it meets its own need", kit.goal(), "20099 -");
        kit.pin(0, "1.0");
        kit.x.solve(false);
        Kit.same("by what it provides", kit.goal(), "10099 -");
        kit.need(0, 10099, "b#");
        Kit.same("but not with #", kit.x.solve(false), -1);
    }

    private static void bans() {
        Kit kit = Kit.of(2).v(0, 10099, 20099).v(1, 10099);
        kit.x.provide(1, 10099, 0, 70099);
        kit.ban(0, 20099, "a");
        kit.ban(1, 10099, "a 7.0");
        kit.wish("a|b");
        kit.x.solve(false);
        Kit.same("its own ban does not matter, that of b's does", kit.goal(), "20099 -");
        kit.wish("b");
        kit.x.solve(false);
        Kit.same("a 1.0 bans nothing", kit.goal(), "10099 10099");
    }

    private static void least() {
        Kit kit = Kit.of(3).v(0, 10099, 20099).v(1, 10099, 20099).v(2, 10099);
        kit.wish("a");
        kit.wish("b");
        kit.x.root(0);
        kit.pin(0, "1.0");
        kit.pin(1, "1.0");
        kit.install();
        kit.pin(0, "");
        kit.pin(1, "");
        kit.x.solve(true);
        Kit.same("nothing needs to change", kit.goal(), "10099 10099 -");
        kit.wish("a 2.0|b 2.0");
        Kit.same("solve", kit.x.solve(true), 2);
        Kit.same("one change, a is ahead", kit.goal(), "20099 10099 -");
        kit.ban(0, 20099, "b 1.0");
        kit.x.solve(true);
        Kit.same("one change, so b", kit.goal(), "10099 20099 -");
        kit.ban(1, 20099, "a 1.0");
        kit.x.solve(true);
        Kit.same("two changes", kit.goal(), "20099 20099 -");
        Kit.same("changes", kit.x.changes(), 2);
        kit.wish("c");
        kit.x.solve(true);
        Kit.same("three changes", kit.goal(), "20099 20099 10099");
        kit.pin(2, "7.0");
        Kit.same("none fits", kit.x.solve(true), -1);
        Kit.same("the goal stays", kit.goal(), "20099 20099 10099");
    }

    private static void leastOfOptions() {
        Kit kit = Kit.of(2).v(0, 10099, 20099).v(1, 10099);
        kit.option(0, 10099, "b");
        kit.option(0, 20099, "a");
        kit.wish("a");
        kit.pin(0, "1.0");
        kit.install();
        kit.pin(0, "");
        kit.wish("a#");
        kit.x.solve(true);
        Kit.same("version and option are one change", kit.goal(), "20099+ -");
        kit.install();
        kit.x.unwish(1);
        kit.x.solve(true);
        Kit.same("switching off is a change", kit.goal(), "20099+ -");
        kit.x.solve(false);
        Kit.same("the newest has it off", kit.goal(), "20099 -");
        leastWithoutOption();
    }

    private static void leastWithoutOption() {
        Kit kit = Kit.of(3).v(0, 10099).v(1, 10099).v(2, 10099);
        kit.option(0, 10099, "b");
        kit.wish("a#");
        kit.install();
        Kit.same("installed", kit.installed(), "1010099 10099 -1");
        kit.x.unwish(0);
        kit.pin(1, "2.0");
        kit.x.solve(true);
        Kit.same("the option or a must go, too", kit.goal(), "- - -");
        kit.wish("c|a");
        kit.x.solve(true);
        Kit.same("the option goes, c does not come", kit.goal(), "10099 - -");
        kit.wish("a#");
        Kit.same("neither can", kit.x.solve(true), -1);
    }

    private static void versionOfAndIsOn() {
        Kit kit = Kit.of(3).v(0, 10099, 20099).v(1, 30099);
        kit.option(0, 20099, "b");
        kit.wish("a#");
        Kit.same("no goal yet", kit.goal(), "- - -");
        kit.x.solve(false);
        Kit.same("versionOf", kit.x.versionOf(0), 20099);
        Kit.same("isOn", kit.x.isOn(0), true);
        Kit.same("isOn", kit.x.isOn(1), false);
        Kit.same("versionOf", kit.x.versionOf(2), -1);
        for (int pack : new int[] {-1, 3, MIN, MAX}) {
            kit.index("versionOf", () -> kit.x.versionOf(pack));
            kit.index("isOn", () -> kit.x.isOn(pack));
        }
    }

    private static void changes() {
        Kit kit = Kit.of(3).v(0, 10099, 20099).v(1, 10099).v(2, 10099);
        kit.option(1, 10099, "b");
        kit.wish("a");
        kit.wish("b");
        Kit.same("none at first", kit.x.changes(), 0);
        kit.x.solve(false);
        Kit.same("two come", kit.x.changes(), 2);
        kit.x.install();
        Kit.same("none", kit.x.changes(), 0);
        kit.wish("b#");
        kit.wish("a 1.0");
        kit.wish("c");
        kit.x.solve(false);
        Kit.same("an option, a version, one comes", kit.x.changes(), 3);
        kit.x.backTo(-1);
        Kit.same("two go", kit.x.changes(), 2);
    }

    private static void must() {
        Kit kit = Kit.of(3).v(0, 10099, 20099).v(1, 10099).v(2, 10099);
        kit.need(0, 10099, "b");
        kit.need(0, 20099, "b");
        kit.ban(1, 10099, "c");
        kit.wish("a");
        Kit.same("in all", kit.x.must(1, 10099), 1);
        Kit.same("in some", kit.x.must(0, 10099), 0);
        Kit.same("in some", kit.x.must(0, 20099), 0);
        Kit.same("in none", kit.x.must(2, 10099), -1);
        kit.index("no version", () -> kit.x.must(0, 30099));
        kit.index("a version of another one", () -> kit.x.must(2, 20099));
        for (int pack : new int[] {-1, 3, MIN, MAX}) {
            kit.index("no package", () -> kit.x.must(pack, 10099));
        }
        kit.wish("c");
        Kit.same("no set fits", kit.x.must(1, 10099), -2);
        kit.index("no version all the same", () -> kit.x.must(0, 30099));
    }

    private static void fitting() {
        Kit kit = Kit.of(3).v(0, 10099, 20099).v(1, 10099).v(2, 10099);
        Kit.same("all", kit.x.fitting(), 12);
        kit.option(0, 20099, "a");
        Kit.same("with an option", kit.x.fitting(), 16);
        kit.ban(0, 10099, "b");
        Kit.same("but one and c", kit.x.fitting(), 14);
        kit.wish("c");
        Kit.same("with c", kit.x.fitting(), 7);
        kit.wish("a#");
        Kit.same("with a on", kit.x.fitting(), 2);
        Kit most = Kit.of(5);
        for (int k = 0; k < 4; k++) {
            most.v(k, 199, 299, 399, 499);
        }
        most.v(4, 199, 299, 399, 499, 599, 699, 799);
        Kit.same("5000 sets", most.x.fitting(), 5000);
        most.v(4, 899);
        Kit.same("more sets", most.x.fitting(), -1);
        most.x.undo();
        most.option(4, 199, "a");
        Kit.same("more sets by an option", most.x.fitting(), -1);
        most.wish("a#");
        Kit.same("also if none fits", most.x.fitting(), -1);
        Kit full = Kit.of(12);
        for (int k = 0; k < 40; k++) {
            full.v(k % 12, 199 + 100 * k);
            full.option(k % 12, 199 + 100 * k, "a");
        }
        Kit.same("very many sets", full.x.fitting(), -1);
        Kit.same("errors all the same", full.x.errors(), 0);
    }

    private static void becauseAndFar() {
        Kit kit = Kit.of(7);
        for (int p = 0; p < 7; p++) {
            kit.v(p, 10099);
        }
        kit.x.provide(5, 10099, 3, 40099);
        kit.need(6, 10099, "b");
        kit.need(2, 10099, "b|c");
        kit.need(1, 10099, "d 4.0");
        kit.need(1, 10099, "a");
        kit.need(5, 10099, "g");
        kit.wish("e|d");
        kit.wish("c");
        kit.wish("g|c");
        kit.x.solve(false);
        Kit.same("goal", kit.goal(), "10099 10099 10099 10099 10099 10099 10099");
        Kit.same("because", kit.row(7, kit.x::because), "1 2 101 100 100 100 102");
        Kit.same("far", kit.row(7, kit.x::far), "3 2 1 1 1 1 1");
        kit.x.unwish(2);
        kit.x.unwish(0);
        Kit.same("because", kit.row(7, kit.x::because), "1 2 101 -1 -1 1 5");
        Kit.same("far", kit.row(7, kit.x::far), "3 2 1 -1 -1 3 4");
        kit.x.solve(false);
        Kit.same("c meets its own need", kit.goal(), "- - 10099 - - - -");
        Kit.same("because", kit.row(7, kit.x::because), "-1 -1 101 -1 -1 -1 -1");
        for (int pack : new int[] {-1, 7, MIN, MAX}) {
            kit.index("because", () -> kit.x.because(pack));
            kit.index("far", () -> kit.x.far(pack));
        }
    }

    private static void reachedByOption() {
        Kit kit = Kit.of(4).v(0, 10099).v(1, 10099).v(2, 10099).v(3, 10099);
        kit.option(1, 10099, "c");
        kit.need(0, 10099, "b#");
        kit.need(2, 10099, "c|d");
        kit.x.provide(3, 10099, 1, 10099);
        kit.wish("a");
        kit.wish("d 5.0|c");
        kit.x.lock(0);
        kit.x.solve(false);
        Kit.same("goal", kit.goal(), "10099 10099+ 10099 10099");
        kit.x.unwish(1);
        kit.x.solve(false);
        Kit.same("goal", kit.goal(), "10099 10099+ 10099 -");
        Kit.same("c by the option of b", kit.row(4, kit.x::because), "100 0 1 -1");
        kit.wish("b#");
        Kit.same("b by the wish", kit.row(4, kit.x::because), "100 102 1 -1");
        kit.wish("d");
        kit.x.solve(false);
        Kit.same("d does not meet b#", kit.row(4, kit.x::because), "100 102 1 103");
        kit.x.unwish(3);
        Kit.same("d meets the need of c", kit.row(4, kit.x::because), "100 102 1 2");
        Kit.same("far", kit.row(4, kit.x::far), "1 1 2 3");
        kit.x.unwish(2);
        Kit.same("far", kit.row(4, kit.x::far), "1 2 3 4");
    }
}
