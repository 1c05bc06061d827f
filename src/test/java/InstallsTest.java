/** Promises 43 to 52: steps, installs that succeed and fail, files, scripts. */
public final class InstallsTest {
    private static final int MIN = Integer.MIN_VALUE;
    private static final int MAX = Integer.MAX_VALUE;

    public static void main(String[] args) {
        plan();
        planAt();
        planOfAllLeft();
        notSound();
        install();
        ring();
        fetch();
        file();
        space();
        script();
        switched();
        failure();
        installed();
        owner();
        clashes();
        fails();
        scripts();
        rings();
        scriptAt();
        Kit.end("InstallsTest");
    }

    private static void plan() {
        Kit kit = Kit.of(3).v(0, 10099).v(1, 10099).v(2, 10099);
        Kit.same("nothing to do", kit.x.plan(), 0);
        kit.need(0, 10099, "c");
        kit.wish("a");
        kit.wish("b");
        kit.x.solve(false);
        Kit.same("three", kit.x.plan(), 3);
        Kit.same("b, then c, then a", kit.steps(), "2 4 1");
        kit.x.install();
        Kit.same("nothing left", kit.x.plan(), 0);
        kit.x.backTo(-1);
        Kit.same("a goes first", kit.steps(), "1 2 4");
    }

    private static void planAt() {
        Kit kit = Kit.of(4).v(0, 10099).v(1, 10099).v(2, 10099).v(3, 10099);
        kit.need(0, 10099, "b");
        kit.need(1, 10099, "a|d");
        kit.wish("a");
        kit.wish("c");
        kit.x.solve(false);
        Kit.same("c, then a and b at once", kit.steps(), "4 3");
        for (int step : new int[] {-1, 2, MIN, MAX}) {
            kit.index("no step", () -> kit.x.planAt(step));
        }
        kit.wish("d");
        kit.x.solve(false);
        Kit.same("after each step from the first one", kit.steps(), "4 8 2 1");
    }

    private static void planOfAllLeft() {
        Kit kit = Kit.of(3).v(0, 10099, 20099).v(1, 10099, 20099).v(2, 10099);
        kit.need(0, 10099, "b 1.0");
        kit.need(0, 20099, "b 2.0");
        kit.need(1, 10099, "a 1.0");
        kit.need(1, 20099, "a 2.0");
        kit.option(2, 10099, "a 2.0");
        kit.wish("a 1.0");
        kit.wish("c");
        kit.install();
        kit.x.unwish(0);
        kit.wish("a 2.0");
        kit.wish("c#");
        kit.x.solve(false);
        Kit.same("all that are left at once", kit.steps(), "7");
        Kit.same("one step", kit.x.install(), 1);
        Kit.same("installed", kit.installed(), "20099 20099 1010099");
    }

    private static void notSound() {
        Kit kit = Kit.of(2).v(0, 10099).v(1, 10099);
        kit.wish("a");
        kit.x.solve(false);
        kit.need(0, 10099, "b");
        kit.state("plan", kit.x::plan);
        kit.state("planAt", () -> kit.x.planAt(-1));
        kit.state("install", kit.x::install);
        Kit.same("the goal is left", kit.goal(), "10099 -");
        kit.x.solve(false);
        Kit.same("sound again", kit.x.install(), 2);
    }

    private static void install() {
        Kit kit = Kit.of(2).full(0, 10099, 1, 3, 0).full(1, 10099, 2, 4, 0);
        Kit.same("nothing", kit.x.install(), 0);
        Kit.same("comes to the history", kit.x.count(5), 1);
        kit.wish("a");
        kit.wish("b");
        kit.x.solve(false);
        int undoable = kit.x.count(7);
        Kit.same("two", kit.x.install(), 2);
        Kit.same("is a change", kit.x.count(7), undoable + 1);
        Kit.same("installed", kit.installed(), "10099 10099");
        Kit.same("history", kit.x.count(5), 2);
        Kit.same("size", kit.x.size(), 7);
        Kit.same("again without steps", kit.x.install(), 0);
        Kit.same("history", kit.x.count(5), 3);
        Kit.same("nothing fetched without mirrors", kit.x.count(6), 0);
        kit.x.root(1);
        Kit.same("another root", kit.installed(), "-1 -1");
    }

    private static void ring() {
        Kit kit = Kit.of(4).v(0, 10099).v(1, 10099).v(2, 10099).v(3, 10099);
        kit.ahead(3, 10099, "b");
        kit.ahead(1, 10099, "c");
        kit.ahead(2, 10099, "d|a");
        kit.wish("d");
        kit.x.mirror();
        kit.x.solve(false);
        Kit.same("fails", kit.x.install(), -1);
        Kit.same("by the ring, ahead of fetches", kit.failure(), "0 1 -1");
        Kit.same("nothing is installed", kit.installed(), "-1 -1 -1 -1");
        Kit.same("no history", kit.x.count(5), 0);
        kit.wish("a");
        kit.x.solve(false);
        Kit.same("a does not break the ring", kit.x.scripts(), -3);
    }

    private static void fetch() {
        Kit kit = Kit.of(2).full(0, 10099, 0, 9, 1).full(1, 10099, 0, 0, 2);
        kit.x.mirror();
        kit.x.offer(0, 0, 10099, 1);
        kit.wish("a");
        kit.wish("b");
        kit.x.quota(0);
        kit.x.solve(false);
        Kit.same("fails", kit.x.install(), -1);
        Kit.same("by a fetch, ahead of the space", kit.failure(), "1 1 -1");
        kit.x.offer(0, 1, 10099, 2);
        Kit.same("fails", kit.x.install(), -1);
        Kit.same("by space", kit.failure(), "3 0 0");
        Kit.same("what was fetched stays counted", kit.x.count(6), 3);
        kit.x.quota(9);
        Kit.same("succeeds", kit.x.install(), 2);
        Kit.same("what is there is not fetched", kit.x.install(), 0);
        Kit.same("fetched", kit.x.count(6), 5);
        kit.x.backTo(-1);
        Kit.same("what goes is not fetched", kit.x.install(), 2);
        Kit.same("fetched", kit.x.count(6), 5);
    }

    private static void file() {
        Kit kit = Kit.of(3).full(0, 10099, 5, 0, 0).full(1, 10099, 8, 0, 0).full(1, 20099, 4, 0, 0);
        kit.full(2, 10099, 1 << 30 | 8, 0, 0);
        kit.wish("a");
        kit.wish("b");
        kit.x.solve(false);
        Kit.same("fails", kit.x.install(), -1);
        Kit.same("at b, in step 1", kit.failure(), "2 1 1");
        Kit.same("all is as it was", kit.installed(), "-1 -1 -1");
        kit.pin(1, "1.0");
        Kit.same("succeeds", kit.install(), 2);
        kit.wish("c");
        kit.x.unwish(1);
        Kit.same("a file of what goes later is there", kit.install(), 2);
        Kit.same("b has gone first", kit.installed(), "10099 -1 10099");
        kit.wish("b");
        kit.x.solve(false);
        Kit.same("c has the file", kit.x.install(), -1);
        Kit.same("at b, in step 0", kit.failure(), "2 1 0");
        sameFileInOneStep();
    }

    private static void sameFileInOneStep() {
        Kit kit = Kit.of(3).full(0, 10099, 3, 0, 0).full(1, 10099, 6, 0, 0);
        kit.full(0, 20099, 4, 0, 0).full(1, 20099, 3, 0, 0);
        kit.need(0, 10099, "b 1.0");
        kit.need(1, 10099, "a 1.0");
        kit.ahead(0, 20099, "b 2.0");
        kit.need(1, 20099, "a 2.0");
        kit.wish("a 1.0");
        kit.x.solve(false);
        Kit.same("fails", kit.x.install(), -1);
        Kit.same("at b, which comes second", kit.failure(), "2 1 0");
        kit.x.unwish(0);
        kit.wish("a 2.0");
        kit.x.solve(false);
        Kit.same("succeeds", kit.x.install(), 1);
        kit.full(0, 30099, 2, 0, 0).full(1, 30099, 4, 0, 0);
        kit.ahead(0, 30099, "b 3.0");
        kit.need(1, 30099, "a 3.0");
        kit.x.unwish(1);
        kit.wish("a 3.0");
        kit.x.solve(false);
        Kit.same("files change hands in one step", kit.x.install(), 1);
        Kit.same("owners", kit.row(4, kit.x::owner), "-1 0 1 -1");
        kit.full(0, 40099, 1, 0, 0).full(1, 40099, 1, 0, 0);
        kit.ahead(0, 40099, "b 4.0");
        kit.need(1, 40099, "a 4.0");
        kit.x.unwish(2);
        kit.wish("a 4.0");
        kit.x.solve(false);
        Kit.same("fails", kit.x.install(), -1);
        Kit.same("at a, whose script is second", kit.failure(), "2 0 0");
    }

    private static void space() {
        Kit kit = Kit.of(3).full(0, 10099, 0, 6, 0).full(1, 10099, 0, 5, 0).full(2, 10099, 0, 7, 0);
        kit.option(0, 10099, "a");
        kit.wish("a");
        kit.wish("b");
        kit.x.quota(10);
        kit.x.solve(false);
        Kit.same("fails", kit.x.install(), -1);
        Kit.same("at b", kit.failure(), "3 1 1");
        kit.x.quota(11);
        Kit.same("just fits", kit.x.install(), 2);
        kit.x.unwish(1);
        kit.x.quota(5);
        Kit.same("too much is left when b goes", kit.install(), -1);
        Kit.same("at b", kit.failure(), "3 1 0");
        kit.wish("a#");
        kit.wish("b");
        Kit.same("or an option is switched", kit.install(), -1);
        Kit.same("at a", kit.failure(), "3 0 0");
        kit.x.unwish(0);
        kit.x.unwish(2);
        kit.x.unwish(3);
        Kit.same("with a and b, a goes first", kit.install(), 2);
        Kit.same("failed at none", kit.failure(), "-1 -1 -1");
        spaceOfSteps();
    }

    private static void spaceOfSteps() {
        Kit kit = Kit.of(3).full(0, 10099, 0, 6, 0).full(1, 10099, 0, 5, 0).full(2, 10099, 0, 7, 0);
        kit.wish("c");
        kit.install();
        kit.x.unwish(0);
        kit.wish("a");
        kit.x.quota(12);
        kit.x.solve(false);
        Kit.same("a comes ahead of the going of c", kit.x.install(), -1);
        Kit.same("at a", kit.failure(), "3 0 0");
        kit.x.quota(13);
        Kit.same("fits", kit.x.install(), 2);
        Kit both = Kit.of(3).full(0, 10099, 0, 6, 0).full(1, 10099, 0, 5, 0);
        both.need(0, 10099, "b");
        both.ahead(1, 10099, "a");
        both.wish("b");
        both.x.quota(10);
        both.x.solve(false);
        Kit.same("both in one step", both.x.install(), -1);
        Kit.same("the greatest package", both.failure(), "3 1 0");
    }

    private static void script() {
        Kit kit = Kit.of(3).v(0, 10099).v(1, 10099).v(2, 10099);
        kit.ahead(0, 10099, "c");
        kit.need(2, 10099, "a");
        kit.x.fails(0, 10099, true);
        kit.x.fails(2, 10099, true);
        kit.wish("b");
        kit.wish("a");
        kit.x.solve(false);
        Kit.same("fails", kit.x.install(), -1);
        Kit.same("at c, whose script is ahead", kit.failure(), "4 2 1");
        Kit.same("b is taken back", kit.installed(), "-1 -1 -1");
        kit.x.fails(2, 10099, false);
        kit.x.install();
        Kit.same("at a", kit.failure(), "4 0 1");
        kit.x.fails(0, 10099, false);
        Kit.same("none fails", kit.x.install(), 2);
        kit.x.fails(0, 10099, true);
        Kit.same("what is there runs no script", kit.x.install(), 0);
        kit.x.backTo(-1);
        Kit.same("what goes runs none", kit.x.install(), 2);
        Kit first = Kit.of(2).v(0, 10099).full(1, 10099, 1, 0, 0);
        first.wish("a");
        first.wish("b");
        first.x.fails(0, 10099, true);
        first.x.solve(false);
        Kit.same("the first one", first.x.install(), -1);
        Kit.same("at a", first.failure(), "4 0 0");
        first.x.fails(0, 10099, false);
        Kit.same("b has file 0", first.x.install(), 2);
    }

    private static void switched() {
        Kit kit = Kit.of(1).full(0, 10099, 3, 2, 1);
        kit.option(0, 10099, "a");
        kit.wish("a");
        kit.install();
        kit.x.mirror();
        kit.x.fails(0, 10099, true);
        kit.wish("a#");
        kit.x.solve(false);
        Kit.same("no fetch", kit.x.fetches(), 0);
        Kit.same("no files, no script", kit.x.install(), 1);
        Kit.same("it is on", kit.installed(), "1010099");
        Kit.same("its file", kit.x.owner(1), 0);
        Kit.same("not fetched", kit.x.count(6), 0);
    }

    private static void failure() {
        Kit kit = Kit.of(1).full(0, 10099, 0, 1, 0);
        Kit.same("none yet", kit.failure(), "-1 -1 -1");
        kit.wish("a");
        kit.x.quota(0);
        kit.install();
        Kit.same("by space", kit.failure(), "3 0 0");
        for (int what : new int[] {-1, 3, MIN, MAX}) {
            kit.argument("no what", () -> kit.x.failure(what));
        }
        kit.x.root(1);
        Kit.same("another root", kit.failure(), "-1 -1 -1");
        kit.x.root(0);
        Kit.same("this one", kit.failure(), "3 0 0");
        kit.x.quota(1);
        kit.x.install();
        Kit.same("did not fail", kit.failure(), "-1 -1 -1");
        kit.x.undo();
        Kit.same("as it was", kit.failure(), "3 0 0");
    }

    private static void installed() {
        Kit kit = Kit.of(3).v(0, 10099).v(1, 999999).v(2, 1);
        kit.option(1, 999999, "a");
        kit.wish("b#");
        kit.x.solve(false);
        Kit.same("nothing yet", kit.installed(), "-1 -1 -1");
        kit.x.install();
        Kit.same("installed", kit.installed(), "10099 1999999 -1");
        for (int pack : new int[] {-1, 3, MIN, MAX}) {
            kit.index("no package", () -> kit.x.installed(pack));
        }
    }

    private static void owner() {
        Kit kit = Kit.of(2).full(0, 10099, 1 | 1 << 30, 0, 0).full(1, 10099, 2, 0, 0);
        kit.wish("a");
        kit.wish("b");
        kit.x.solve(false);
        Kit.same("none yet", kit.x.owner(0), -1);
        kit.x.install();
        Kit.same("owners", kit.row(31, kit.x::owner), "0 1" + " -1".repeat(28) + " 0");
        for (int file : new int[] {-1, 31, MIN, MAX}) {
            kit.argument("no file", () -> kit.x.owner(file));
        }
    }

    private static void clashes() {
        Kit kit = Kit.of(3).full(0, 10099, 15, 0, 0).full(1, 10099, 7 | 1 << 30, 0, 0);
        kit.full(2, 10099, 19 | 1 << 30, 0, 0);
        Kit.same("none", kit.x.clashes(), 0);
        kit.wish("a");
        kit.x.solve(false);
        Kit.same("none of one", kit.x.clashes(), 0);
        kit.wish("b");
        kit.x.solve(false);
        Kit.same("of two", kit.x.clashes(), 3);
        kit.wish("c");
        kit.x.solve(false);
        Kit.same("of three", kit.x.clashes(), 4);
        Kit apart = Kit.of(3).full(0, 10099, 1, 0, 0).full(1, 10099, 2, 0, 0).full(2, 10099, 1, 0, 0);
        apart.wish("a");
        apart.wish("b");
        apart.wish("c");
        apart.x.solve(false);
        Kit.same("of the first and the last", apart.x.clashes(), 1);
    }

    private static void fails() {
        Kit kit = Kit.of(2).v(0, 10099, 20099).v(1, 10099);
        Kit.same("at first", kit.x.fails(0, 20099, true), false);
        Kit.same("then", kit.x.fails(0, 20099, true), true);
        Kit.same("another one", kit.x.fails(0, 10099, false), false);
        Kit.same("then", kit.x.fails(0, 20099, false), true);
        Kit.same("then", kit.x.fails(0, 20099, true), false);
        kit.index("no version", () -> kit.x.fails(1, 20099, true));
        for (int pack : new int[] {-1, 2, MIN, MAX}) {
            kit.index("no package", () -> kit.x.fails(pack, 10099, true));
        }
        kit.x.undo();
        Kit.same("undone", kit.x.fails(0, 20099, true), false);
    }

    private static void scripts() {
        Kit kit = Kit.of(5);
        for (int p = 0; p < 5; p++) {
            kit.v(p, 10099);
        }
        kit.ahead(0, 10099, "e|c");
        kit.ahead(2, 10099, "c|d 9.0");
        kit.need(1, 10099, "a");
        kit.x.provide(3, 10099, 2, 10099);
        kit.wish("b");
        Kit.same("of nothing", kit.x.scripts(), 0);
        kit.x.solve(false);
        Kit.same("goal", kit.goal(), "10099 10099 - - 10099");
        Kit.same("needs that are not ahead do not matter", kit.scripts(), "1 4 0");
        kit.wish("c");
        kit.wish("d");
        kit.x.solve(false);
        Kit.same("scripts", kit.x.scripts(), 4);
        Kit.same("by c, and d for c", kit.scripts(), "1 3 2 0");
        hashAhead();
    }

    private static void hashAhead() {
        Kit kit = Kit.of(3).v(0, 10099).v(1, 10099).v(2, 10099);
        kit.option(1, 10099, "c");
        kit.ahead(0, 10099, "b#");
        kit.x.provide(2, 10099, 1, 10099);
        kit.need(2, 10099, "a");
        kit.wish("a");
        kit.x.solve(false);
        Kit.same("b alone is ahead", kit.scripts(), "1 0 2");
        Kit.same("goal", kit.goal(), "10099 10099+ 10099");
    }

    private static Kit ringOf(String... needs) {
        Kit kit = Kit.of(7);
        for (int p = 0; p < 7; p++) {
            kit.v(p, 10099);
        }
        for (int p = 0; p < needs.length; p++) {
            if (!needs[p].isEmpty()) {
                for (String need : needs[p].split(" ")) {
                    kit.ahead(p, 10099, need);
                }
            }
            kit.wish("" + (char) ('a' + p));
        }
        kit.x.solve(false);
        return kit;
    }

    private static void ringIs(String what, int length, String row, String... needs) {
        Kit kit = ringOf(needs);
        Kit.same(what, kit.x.scripts(), length);
        Kit.same(what, kit.scripts(), row);
    }

    private static void rings() {
        ringIs("b is ahead of a, and it of b", -2, "0 1", "b", "a");
        ringIs("not of itself", 2, "0 1", "a", "b");
        ringIs("three, each ahead of the next", -3, "0 1 2", "c", "a", "b");
        ringIs("three, the other way", -3, "0 2 1", "b", "c", "a");
        ringIs("the least first package", -4, "0 3 2 1", "b", "c e", "d", "a", "b c");
        ringIs("the shortest", -3, "0 4 1", "b", "c e", "d", "a", "a");
        ringIs("the lesser where they are unlike", -3, "0 1 4", "d e", "a", "a", "c", "b");
        ringIs("the lesser first", -3, "0 1 5", "d e f", "a", "a", "c", "c", "b");
        ringIs("packages ahead of the ring", -2, "1 2", "", "c", "b a", "c");
        ringIs("packages behind it", -2, "1 2", "b", "c", "b", "c");
        ringIs("a longer one, with a lesser package", -3, "0 2 1", "b", "c", "b a", "c");
        ringIs("two rings of two", -2, "0 3", "d", "c", "b", "a");
        ringIs("order without a ring", 5, "4 3 2 1 0", "b", "c", "d", "e", "");
    }

    private static void scriptAt() {
        Kit kit = ringOf("b", "a", "");
        for (int place : new int[] {-1, 2, MIN, MAX}) {
            kit.index("no place in the ring", () -> kit.x.scriptAt(place));
        }
        Kit.same("second", kit.x.scriptAt(1), 1);
        kit.x.unwish(0);
        kit.x.unwish(1);
        kit.x.solve(false);
        Kit.same("scripts", kit.x.scripts(), 1);
        Kit.same("first", kit.x.scriptAt(0), 2);
        kit.index("no place", () -> kit.x.scriptAt(1));
    }
}
