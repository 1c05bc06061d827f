/** Edges of section 9 and of the promises 43 to 52: steps, installs, files, scripts. */
final class InstallEdges {
    private static final int MAX = Integer.MAX_VALUE;
    private static final Class<IllegalStateException> STATE = IllegalStateException.class;
    private static final Class<IllegalArgumentException> ARGUMENT = IllegalArgumentException.class;
    private static final Class<IndexOutOfBoundsException> INDEX = IndexOutOfBoundsException.class;

    private InstallEdges() {}

    static void all() {
        aheadOf();
        order();
        rings();
        steps();
        ringFails();
        fetched();
        fetchFails();
        files();
        filesInOrder();
        space();
        spaceOfStep();
        scriptsRun();
        switchedAlone();
        takenBack();
        history();
        plan();
        planAt();
        install();
        failure();
        installed();
        owner();
        clashes();
        fails();
        scripts();
        scriptAt();
    }

    private static String letter(int pack) {
        return "" + (char) ('a' + pack);
    }

    private static Kit ones(int packs) {
        Kit kit = Kit.of(packs);
        for (int p = 0; p < packs; p++) {
            kit.v(p, 10099);
        }
        return kit;
    }

    /** Wishes all packages (at most 8, or 12 by either-ors) and solves. */
    private static Kit wished(Kit kit) {
        int packs = kit.x.count(0);
        for (int p = 0; p < Math.min(packs, 8); p++) {
            kit.wish(letter(p) + (p + 8 < packs ? "|" + letter(p + 8) : ""));
        }
        kit.x.solve(false);
        return kit;
    }

    /** Packages of which each one has these needs that are ahead, all of them in the goal. */
    private static Kit scripted(String... needs) {
        Kit kit = ones(needs.length);
        for (int p = 0; p < needs.length; p++) {
            for (int k = 0; k < needs[p].length(); k++) {
                kit.ahead(p, 10099, needs[p].substring(k, k + 1));
            }
        }
        return wished(kit);
    }

    private static void ordered(String what, int scripts, String row, String... needs) {
        Kit kit = scripted(needs);
        Kit.same(what, kit.x.scripts(), scripts);
        Kit.same(what, kit.scripts(), row);
    }

    // ---- Section 9: scripts and steps

    private static void aheadOf() {
        Edge.of("9", "In a set the package p is ahead of the package q if the version of q has a need that is "
                + "ahead, and of which the version of p meets an atom (p and q being unlike).").holds(() -> {
            ordered("not of itself", 1, "0", "a");
            ordered("not of itself", 2, "0 1", "a", "ab");
            ordered("of the other one", 2, "1 0", "b", "");
            Kit kit = Kit.of(3).v(0, 10099).v(1, 10099).v(2, 10099);
            kit.need(0, 10099, "b");
            kit.need(0, 10099, "c");
            wished(kit);
            Kit.same("needs that are not ahead", kit.scripts(), "0 1 2");
            kit.ahead(0, 10099, "b 2.0|c 2.0|c");
            Kit.same("c by the last atom, b by none", kit.scripts(), "1 2 0");
            kit.x.provide(1, 10099, 2, 20099);
            kit.ahead(2, 10099, "c 2.0");
            Kit.same("b by what it provides", kit.scripts(), "1 2 0");
            kit.ahead(1, 10099, "c");
            Kit.same("c is ahead of b, b of c", kit.x.scripts(), -2);
        });
    }

    private static void order() {
        Edge.of("9", "again and again the least package, of those that are left, that no other one that is "
                + "left is ahead of.").holds(() -> {
            ordered("none", 0, "");
            ordered("by numbers", 4, "0 1 2 3", "", "", "", "");
            ordered("the last first", 4, "3 2 1 0", "b", "c", "d", "");
            ordered("the least that is free", 5, "1 3 0 2 4", "d", "", "a", "b", "");
            ordered("all 12", 12, "1 2 3 4 5 6 7 8 9 10 11 0", "l", "", "", "", "", "", "", "", "", "", "", "");
        });
    }

    private static void rings() {
        Edge.of("9", "If there is none, though some are left, there is a ring:",
                "a row of packages each of which is ahead of the next one, and the last one of the first;")
                .holds(() -> {
            ordered("two", -2, "0 1", "b", "a");
            ordered("a is ahead of b, b of c, c of a", -3, "0 1 2", "c", "a", "b");
            ordered("a is ahead of c, c of b, b of a", -3, "0 2 1", "b", "c", "a");
            ordered("all 12", -12, "0 1 2 3 4 5 6 7 8 9 10 11", "l", "a", "b", "c", "d", "e", "f", "g", "h",
                    "i", "j", "k");
            ordered("though others are ordered", -2, "1 2", "", "c", "b", "a");
        });
        Edge.of("9", "it is told from its least package on;").holds(() -> {
            ordered("b, not c or d", -3, "1 2 3", "", "d", "b", "c");
            ordered("behind it is a", -2, "2 3", "b", "c", "d", "c");
        });
        Edge.of("9", "of several rings the one with the least first package,").holds(() -> {
            ordered("a's of four, not b's of two", -4, "0 3 2 1", "b", "ce", "d", "a", "b");
            ordered("a's of two, not b's", -2, "0 3", "d", "c", "b", "a");
        });
        Edge.of("9", "of these the shortest,").holds(() -> {
            ordered("of three, not of four", -3, "0 4 1", "b", "ce", "d", "a", "a");
            ordered("of two, not of three", -2, "0 2", "bc", "c", "a");
        });
        Edge.of("9", "of these the one that has the lesser package where they are first unlike.").holds(() -> {
            ordered("second", -2, "0 1", "bc", "a", "a");
            ordered("second", -3, "0 1 4", "de", "a", "a", "c", "b");
            ordered("third", -3, "0 1 2", "dc", "a", "b", "b");
        });
    }

    private static void steps() {
        Edge.of("9", "as long as there are changes left, the first package (by numbers) among these whose "
                + "change alone leaves a sound set is a step;").holds(() -> {
            Kit none = ones(1);
            Kit.same("none left", none.steps(), "");
            Kit kit = ones(12);
            for (int p = 0; p < 11; p++) {
                kit.need(p, 10099, letter(p + 1));
            }
            kit.wish("a");
            kit.x.solve(false);
            Kit.same("twelve", kit.steps(), "2048 1024 512 256 128 64 32 16 8 4 2 1");
            kit.x.install();
            kit.x.backTo(-1);
            Kit.same("back", kit.steps(), "1 2 4 8 16 32 64 128 256 512 1024 2048");
            Kit first = ones(3);
            first.need(0, 10099, "b");
            Kit.same("again from the first one", wished(first).steps(), "2 1 4");
        });
        Edge.of("9", "if there is none, all changes that are left are one step.").holds(() -> {
            Kit kit = ones(12);
            for (int p = 0; p < 12; p++) {
                kit.need(p, 10099, letter((p + 1) % 12));
            }
            kit.wish("a");
            kit.x.solve(false);
            Kit.same("all", kit.steps(), "4095");
            Kit some = ones(4);
            some.need(1, 10099, "d");
            some.need(3, 10099, "b");
            Kit.same("two alone, then two", wished(some).steps(), "1 4 10");
            some.x.install();
            some.x.backTo(-1);
            Kit.same("and back", some.steps(), "1 4 10");
        });
    }

    // ---- Section 9: what installs do

    private static void ringFails() {
        Edge.of("9", "if its scripts have no order, it fails by RING, at the least package of the ring.")
                .holds(() -> {
            Kit kit = scripted("", "d", "b", "c");
            kit.x.mirror();
            kit.x.quota(0);
            Kit.same("fails", kit.x.install(), -1);
            Kit.same("at b, ahead of fetches", kit.failure(), "0 1 -1");
        });
    }

    private static void fetched() {
        Edge.of("9", "Then the packages that come (whose version in the goal is not the one that is installed, "
                + "and is not none) are fetched, in the order of scripts of the goal;").holds(() -> {
            Kit kit = Kit.of(4).v(0, 10099, 20099).v(1, 10099).v(2, 10099).v(3, 10099);
            kit.option(1, 10099, "b");
            kit.wish("a 1.0");
            kit.wish("b");
            kit.wish("c");
            kit.install();
            kit.x.mirror();
            kit.x.unwish(0);
            kit.x.unwish(2);
            kit.ahead(0, 20099, "d");
            kit.wish("a 2.0");
            kit.wish("b#");
            kit.x.solve(false);
            Kit.same("goal", kit.goal(), "20099 10099+ - 10099");
            Kit.same("d, then the other a; not b, not c", kit.fetched(), "3:-1 0:-1");
            kit.x.offer(0, 3, 10099, 0);
            kit.x.offer(0, 0, 20099, 0);
            Kit.same("four steps", kit.x.install(), 4);
            Kit.same("two were fetched", kit.x.count(6), 2);
            Kit.same("again", kit.x.install(), 0);
            Kit.same("none was fetched", kit.x.count(6), 2);
        });
    }

    private static void fetchFails() {
        Edge.of("9", "the first fetch that fails lets it fail by FETCH.").holds(() -> {
            for (int failing = 0; failing < 4; failing++) {
                Kit kit = scripted("d", "", "", "");
                int[] order = {1, 2, 3, 0};
                kit.x.mirror();
                kit.x.fails(1, 10099, true);
                for (int k = 0; k < failing; k++) {
                    kit.x.offer(0, order[k], 10099, 0);
                }
                Kit.same("fails", kit.x.install(), -1);
                Kit.same("at the first", kit.failure(), "1 " + order[failing] + " -1");
                Kit.same("fetched ahead of it", kit.x.count(6), failing);
            }
        });
    }

    private static void files() {
        Edge.of("9", "the versions that go or change go with their files;").holds(() -> {
            Kit kit = Kit.of(2).full(0, 10099, MAX, 0, 0).full(0, 20099, MAX, 0, 0);
            kit.full(1, 10099, MAX, 0, 0);
            kit.ban(1, 10099, "a");
            kit.wish("a 1.0");
            kit.install();
            kit.wish("a");
            kit.x.unwish(0);
            Kit.same("changes", kit.install(), 1);
            Kit.same("installed", kit.installed(), "20099 -1");
            kit.x.unwish(1);
            kit.wish("b");
            Kit.same("goes", kit.install(), 2);
            Kit.same("installed", kit.installed(), "-1 10099");
            Kit.same("all files", kit.row(31, kit.x::owner), "1" + " 1".repeat(30));
            kit.x.backTo(-1);
            kit.x.install();
            Kit.same("no files", kit.row(31, kit.x::owner), "-1" + " -1".repeat(30));
        });
        Edge.of("9", "if another version that is there by then has one of these files, it fails by FILE, at "
                + "the package of the version that comes;").holds(() -> {
            for (int file = 0; file < 31; file++) {
                Kit kit = Kit.of(2).full(0, 10099, 1 << file, 0, 0).full(1, 10099, MAX, 0, 0);
                wished(kit);
                Kit.same("one file is enough", kit.x.install(), -1);
                Kit.same("at b", kit.failure(), "2 1 1");
            }
            Kit apart = Kit.of(2).full(0, 10099, 0x2aaaaaaa, 0, 0).full(1, 10099, 0x55555555, 0, 0);
            Kit.same("none is enough", wished(apart).x.install(), 2);
        });
    }

    private static void filesInOrder() {
        Edge.of("9", "the versions that come in this step, in the order of scripts, come with their files:")
                .holds(() -> {
            Kit kit = Kit.of(3).full(0, 10099, 1, 0, 0).full(1, 10099, 1, 0, 0).full(2, 10099, 1, 0, 0);
            kit.ahead(0, 10099, "c");
            kit.need(1, 10099, "a");
            kit.need(2, 10099, "b");
            kit.x.fails(2, 10099, true);
            wished(kit);
            Kit.same("one step", kit.steps(), "7");
            Kit.same("b, c, a", kit.scripts(), "1 2 0");
            Kit.same("fails", kit.x.install(), -1);
            Kit.same("at the second of them", kit.failure(), "2 2 0");
            Kit swap = Kit.of(2).full(0, 10099, 1, 0, 0).full(1, 10099, 2, 0, 0);
            swap.full(0, 20099, 2, 0, 0).full(1, 20099, 1, 0, 0);
            swap.need(0, 10099, "b 1.0");
            swap.need(1, 10099, "a 1.0");
            swap.need(0, 20099, "b 2.0");
            swap.need(1, 20099, "a 2.0");
            swap.wish("a 1.0");
            swap.install();
            swap.x.unwish(0);
            swap.wish("a 2.0");
            Kit.same("all go ahead of those that come", swap.install(), 1);
            Kit.same("owners", swap.x.owner(0) + " " + swap.x.owner(1), "1 0");
        });
    }

    private static void space() {
        Edge.of("9", "if the sizes of all that is there are more than the quota then, by SPACE,").holds(() -> {
            int[] sizes = {0, 1, 999, 1000};
            for (int size : sizes) {
                for (int quota = Math.max(0, size - 1); quota <= size + 1; quota++) {
                    Kit kit = Kit.of(1).full(0, 10099, 0, size, 0);
                    kit.x.quota(quota);
                    wished(kit);
                    Kit.same(size + " of " + quota, kit.x.install(), size > quota ? -1 : 1);
                    Kit.same("failure", kit.failure(), size > quota ? "3 0 0" : "-1 -1 -1");
                }
            }
            Kit all = Kit.of(12);
            for (int p = 0; p < 12; p++) {
                all.full(p, 10099, 0, 1000, 0);
            }
            wished(all).x.quota(11999);
            Kit.same("all but one", all.x.install(), -1);
            Kit.same("at the last", all.failure(), "3 11 11");
            all.x.quota(12000);
            Kit.same("all", all.x.install(), 12);
        });
        Edge.of("9", "the versions that go or change go with their files;").holds(() -> {
            Kit kit = Kit.of(1).full(0, 10099, 0, 7, 0).full(0, 20099, 0, 8, 0);
            kit.wish("a 1.0");
            kit.x.quota(8);
            kit.install();
            kit.wish("a 2.0");
            kit.x.unwish(0);
            Kit.same("the old one takes no space", kit.install(), 1);
        });
    }

    private static void spaceOfStep() {
        Edge.of("9", "at the greatest package of this step (also of a step in which packages only go, or "
                + "options are switched);").holds(() -> {
            Kit kit = Kit.of(3).full(0, 10099, 0, 1, 0).full(1, 10099, 0, 1, 0).full(2, 10099, 0, 1, 0);
            kit.option(0, 10099, "a");
            kit.need(1, 10099, "c");
            kit.need(2, 10099, "b");
            wished(kit);
            kit.x.quota(2);
            Kit.same("steps", kit.steps(), "1 6");
            Kit.same("b and c come", kit.x.install(), -1);
            Kit.same("at c", kit.failure(), "3 2 1");
            kit.x.quota(3);
            Kit.same("all fit", kit.x.install(), 2);
            kit.x.quota(0);
            kit.x.unwish(1);
            kit.x.unwish(2);
            Kit.same("b and c go", kit.install(), -1);
            Kit.same("at c", kit.failure(), "3 2 0");
            kit.wish("a#");
            Kit.same("a is switched on first", kit.install(), -1);
            Kit.same("at a", kit.failure(), "3 0 0");
            kit.x.quota(3);
            Kit.same("both", kit.x.install(), 2);
            kit.x.quota(0);
            kit.x.unwish(3);
            Kit.same("a is switched off", kit.install(), -1);
            Kit.same("at a", kit.failure(), "3 0 0");
            kit.x.unwish(0);
            Kit.same("a goes, nothing is left", kit.install(), 1);
            Kit.same("without steps", kit.x.install(), 0);
        });
    }

    private static void scriptsRun() {
        Edge.of("9", "then, again in the order of scripts, their scripts are run:",
                "one that was told to fail lets it fail by SCRIPT.").holds(() -> {
            Kit kit = Kit.of(3).v(0, 10099, 20099).v(1, 10099).v(2, 10099);
            kit.ahead(0, 10099, "c");
            kit.need(1, 10099, "a");
            kit.need(2, 10099, "b");
            kit.wish("a 1.0");
            kit.x.solve(false);
            Kit.same("one step", kit.steps(), "7");
            Kit.same("b, c, a", kit.scripts(), "1 2 0");
            for (int pack : new int[] {0, 2, 1}) {
                kit.x.fails(pack, 10099, true);
                Kit.same("fails", kit.x.install(), -1);
                Kit.same("the first one", kit.failure(), "4 " + pack + " 0");
            }
            for (int p = 0; p < 3; p++) {
                kit.x.fails(p, 10099, false);
            }
            kit.x.fails(0, 20099, true);
            Kit.same("that of another version does not matter", kit.x.install(), 1);
            kit.x.fails(1, 10099, true);
            kit.x.unwish(0);
            kit.wish("b");
            kit.wish("a 2.0");
            Kit.same("of those that come alone", kit.install(), -1);
            Kit.same("at a", kit.failure(), "4 0 0");
            kit.x.backTo(-1);
            Kit.same("those that go run none", kit.x.install(), 1);
        });
    }

    private static void switchedAlone() {
        Edge.of("9", "An option that is switched alone does this without files and script.").holds(() -> {
            Kit kit = Kit.of(1).full(0, 10099, MAX, 5, 5);
            kit.option(0, 10099, "a");
            kit.wish("a");
            kit.install();
            kit.x.fails(0, 10099, true);
            kit.x.mirror();
            kit.wish("a#");
            Kit.same("on", kit.install(), 1);
            Kit.same("it is on", kit.installed(), "1010099");
            Kit.same("its files", kit.row(31, kit.x::owner), "0" + " 0".repeat(30));
            kit.x.unwish(1);
            Kit.same("off", kit.install(), 1);
            Kit.same("it is off", kit.installed(), "10099");
            kit.x.backTo(-1);
            kit.x.install();
            kit.wish("a#");
            kit.x.offer(0, 0, 10099, 5);
            Kit.same("but with its version", kit.install(), -1);
            Kit.same("by its script", kit.failure(), "4 0 0");
        });
    }

    private static void takenBack() {
        Edge.of("9", "If it fails, what is installed is as it was ahead of the install (what was fetched, and "
                + "wrong sums, stay counted);").holds(() -> {
            Kit kit = Kit.of(3).full(0, 10099, 1, 1, 1).full(1, 10099, 2, 2, 2).full(2, 10099, 4, 4, 3);
            kit.x.mirror();
            kit.x.mirror();
            for (int p = 0; p < 3; p++) {
                kit.x.offer(0, p, 10099, 7);
                kit.x.offer(1, p, 10099, p + 1);
            }
            kit.wish("a");
            kit.install();
            kit.x.fails(2, 10099, true);
            kit.x.unwish(0);
            kit.wish("b");
            kit.wish("c");
            kit.x.solve(false);
            Kit.same("a goes, b comes, c comes", kit.steps(), "1 2 4");
            Kit.same("fails", kit.x.install(), -1);
            Kit.same("at c", kit.failure(), "4 2 2");
            Kit.same("a is back, b has gone", kit.installed(), "10099 -1 -1");
            Kit.same("its file", kit.row(3, kit.x::owner), "0 -1 -1");
            Kit.same("size", kit.x.size(), 1);
            Kit.same("history", kit.x.count(5), 1);
            Kit.same("the goal stays", kit.goal(), "- 10099 10099");
            Kit.same("fetched", kit.x.count(6), 3);
            Kit.same("wrong", kit.row(2, kit.x::sumWrong), "2 0");
        });
        Edge.of("9", "otherwise the goal is installed, and comes to the end of the history (also if there were "
                + "no steps).").holds(() -> {
            Kit kit = ones(1);
            Kit.same("nothing", kit.x.install(), 0);
            Kit.same("comes", kit.x.count(5), 1);
            kit.wish("a");
            Kit.same("a", kit.install(), 1);
            Kit.same("nothing", kit.x.install(), 0);
            Kit.same("comes", kit.x.count(5), 3);
            Kit.same("entries", kit.row(3, entry -> kit.x.then(entry, 0)), "-1 10099 10099");
        });
    }

    private static void history() {
        Edge.of("9", "The history is numbered from 0;").holds(() -> {
            Kit kit = ones(1);
            Kit.same("none", Kit.answer(() -> kit.x.then(0, 0)), "NoSuchElementException");
            kit.x.install();
            Kit.same("the first", kit.x.then(0, 0), -1);
            kit.x.root(1);
            kit.wish("a");
            kit.install();
            Kit.same("the first of another root", kit.x.then(0, 0), 10099);
        });
        Edge.of("9", "at most 20 are kept, and the first one goes then (those that are left keep their "
                + "numbers).").holds(() -> {
            Kit kit = Kit.of(1);
            for (int k = 0; k < 8; k++) {
                kit.v(0, 10099 + 100 * k);
            }
            // Entry k has the version 1.(k % 8).
            for (int k = 0; k < 45; k++) {
                kit.pin(0, "1." + k % 8);
                if (k == 0) {
                    kit.wish("a");
                }
                kit.install();
                int newest = k;
                int oldest = Math.max(0, k - 19);
                for (int entry = oldest; entry <= newest; entry++) {
                    Kit.same("entry " + entry, kit.x.then(entry, 0), 10099 + 100 * (entry % 8));
                }
                for (int entry : new int[] {oldest - 1, newest + 1, -1}) {
                    Kit.same("no entry " + entry, Kit.answer(() -> kit.x.then(entry, 0)),
                            "NoSuchElementException");
                }
                Kit.same("that came", kit.x.count(5), k + 1);
            }
        });
    }

    // ---- Promises 43 to 46

    /** b is in the goal, and needs a, which is not. */
    private static Kit unsound() {
        Kit kit = ones(2);
        kit.wish("b");
        kit.x.solve(false);
        kit.need(1, 10099, "a");
        return kit;
    }

    private static void plan() {
        Edge.of("P43", "Returns how many there are.").holds(() -> {
            Kit.same("nothing", new Kit().x.plan(), 0);
            Kit kit = wished(ones(12));
            Kit.same("each alone", kit.x.plan(), 12);
            kit.x.install();
            Kit.same("none", kit.x.plan(), 0);
        });
        Edge.of("P43", "Throws `IllegalStateException` if the goal is not sound").holds(() -> {
            Kit kit = unsound();
            kit.unread("not sound", STATE, kit.x::plan);
            kit.wish("a");
            Kit.same("also if none of it fits", Kit.answer(kit.x::plan), "IllegalStateException");
            kit.x.backTo(-1);
            Kit.same("sound, though it does not fit", kit.x.plan(), 0);
        });
    }

    private static void planAt() {
        Edge.of("P44", "Returns the sum of 2 to the power of each package of it.").holds(() -> {
            Kit kit = wished(ones(12));
            Kit.same("each alone", kit.steps(), "1 2 4 8 16 32 64 128 256 512 1024 2048");
        });
        Edge.of("P44", "Throws `IllegalStateException` if the goal is not sound").holds(() -> {
            Kit kit = unsound();
            kit.outside("also without this step", 0, -1, STATE, kit.x::planAt);
        });
        Edge.of("P44", "- `step`: 0 for the first one",
                "Throws `IndexOutOfBoundsException` if there is no such step").holds(() -> {
            for (int packs = 0; packs <= 12; packs += 4) {
                Kit kit = wished(ones(packs));
                for (int step = 0; step < packs; step++) {
                    Kit.same("step", kit.x.planAt(step), 1 << step);
                }
                kit.outside("step", 0, packs - 1, INDEX, kit.x::planAt);
            }
        });
    }

    private static void install() {
        Edge.of("P45", "Returns the number of steps;").holds(() -> {
            Kit.same("nothing", new Kit().x.install(), 0);
            Kit kit = wished(ones(12));
            Kit.same("each alone", kit.x.install(), 12);
            Kit.same("none", kit.x.install(), 0);
        });
        Edge.of("P45", "NONE if it fails.").holds(() -> {
            Kit ring = scripted("b", "a");
            Kit.same("ring", ring.x.install(), -1);
            Kit fetch = wished(ones(1));
            fetch.x.mirror();
            Kit.same("fetch", fetch.x.install(), -1);
            Kit file = wished(Kit.of(2).full(0, 10099, 1, 0, 0).full(1, 10099, 1, 0, 0));
            Kit.same("file", file.x.install(), -1);
            Kit space = wished(Kit.of(1).full(0, 10099, 0, 1, 0));
            space.x.quota(0);
            Kit.same("space", space.x.install(), -1);
            Kit script = wished(ones(1));
            script.x.fails(0, 10099, true);
            Kit.same("script", script.x.install(), -1);
            for (Kit kit : new Kit[] {ring, fetch, file, space, script}) {
                Kit.same("nothing is installed", kit.x.installed(0), -1);
                Kit.same("no entry came", kit.x.count(5), 0);
            }
        });
        Edge.of("P45", "Throws `IllegalStateException` if the goal is not sound").holds(() -> {
            Kit kit = unsound();
            kit.unread("not sound", STATE, kit.x::install);
            Kit.same("no failure", kit.failure(), "-1 -1 -1");
            kit.wish("a");
            kit.x.solve(false);
            Kit.same("sound", kit.x.install(), 2);
            Kit loose = ones(1);
            loose.wish("a");
            Kit.same("sound, though it does not fit", loose.x.install(), 0);
        });
    }

    private static void failure() {
        Edge.of("P46", "- `what`: 0 RING, FETCH, FILE, SPACE or SCRIPT, 1 the package, 2 the number of the "
                + "step (NONE ahead of the steps)", "Returns what is asked;").holds(() -> {
            Kit ring = scripted("b", "a");
            ring.x.install();
            Kit.same("ring", ring.failure(), "0 0 -1");
            Kit fetch = wished(ones(1));
            fetch.x.mirror();
            fetch.x.install();
            Kit.same("fetch", fetch.failure(), "1 0 -1");
            Kit last = ones(11);
            last.x.pack();
            last.full(11, 10099, 1, 1, 0).full(10, 20099, 1, 0, 0);
            wished(last).x.install();
            Kit.same("file, at the last, in the last step", last.failure(), "2 11 11");
            last.pin(10, "1.0");
            last.x.solve(false);
            last.x.quota(0);
            last.x.install();
            Kit.same("space", last.failure(), "3 11 11");
            last.x.quota(1);
            last.x.fails(11, 10099, true);
            last.x.install();
            Kit.same("script", last.failure(), "4 11 11");
            last.x.fails(0, 10099, true);
            last.x.install();
            Kit.same("script of the first", last.failure(), "4 0 0");
        });
        Edge.of("P46", "NONE if it did not fail, or there was none.",
                "Tells why the latest install() of the root at hand failed.").holds(() -> {
            Kit kit = Kit.of(1).full(0, 10099, 0, 1, 0);
            Kit.same("there was none", kit.failure(), "-1 -1 -1");
            kit.x.quota(0);
            wished(kit).x.install();
            Kit.same("it failed", kit.failure(), "3 0 0");
            kit.x.root(1);
            Kit.same("there was none here", kit.failure(), "-1 -1 -1");
            kit.x.install();
            kit.x.root(0);
            Kit.same("it failed", kit.failure(), "3 0 0");
            kit.need(0, 10099, "a 7.0");
            Kit.same("not sound", Kit.answer(kit.x::install), "IllegalStateException");
            Kit.same("that was none", kit.failure(), "3 0 0");
            kit.x.backTo(-1);
            kit.x.install();
            Kit.same("it did not fail", kit.failure(), "-1 -1 -1");
        });
        Edge.of("P46", "Throws `IllegalArgumentException` if what is out of range").holds(() -> {
            Kit kit = scripted("b", "a");
            kit.outside("what", 0, 2, ARGUMENT, kit.x::failure);
            kit.x.install();
            kit.outside("what", 0, 2, ARGUMENT, kit.x::failure);
        });
        Edge.of("12", "`NONE = -1`:", "`RING = 0, FETCH = 1, FILE = 2, SPACE = 3, SCRIPT = 4`:")
                .holds(() -> {
            Kit.same("NONE", Kitwarden.NONE, -1);
            Kit.same("RING", Kitwarden.RING, 0);
            Kit.same("FETCH", Kitwarden.FETCH, 1);
            Kit.same("FILE", Kitwarden.FILE, 2);
            Kit.same("SPACE", Kitwarden.SPACE, 3);
            Kit.same("SCRIPT", Kitwarden.SCRIPT, 4);
        });
    }

    // ---- Promises 47 to 52

    private static void installed() {
        Edge.of("P47", "Returns its code, and, if its option is on, 1000000 more;").holds(() -> {
            for (int code : new int[] {1, 99, 999999}) {
                Kit kit = Kit.of(1).v(0, code);
                kit.option(0, code, "a >0.0!1,99.99!98..99.99");
                kit.wish("a >0.0!1");
                kit.install();
                Kit.same("off", kit.x.installed(0), code);
                kit.wish("a# >0.0!1");
                Kit.same("on", kit.install(), 1);
                Kit.same("on", kit.x.installed(0), 1000000 + code);
            }
        });
        Edge.of("P47", "NONE if none is installed.").holds(() -> {
            Kit kit = wished(ones(1));
            Kit.same("in the goal alone", kit.x.installed(0), -1);
            kit.x.install();
            kit.x.root(1);
            Kit.same("in another root", kit.x.installed(0), -1);
            kit.x.root(0);
            kit.x.backTo(-1);
            Kit.same("not in the goal", kit.x.installed(0), 10099);
            kit.x.install();
            Kit.same("it has gone", kit.x.installed(0), -1);
        });
        Edge.of("P47", "- `pack`: number of a package",
                "Throws `IndexOutOfBoundsException` if there is no such package").holds(() -> {
            for (int packs = 0; packs <= 12; packs += 6) {
                Kit kit = wished(ones(packs));
                kit.x.install();
                kit.noPackage("installed", kit.x::installed);
                Kit.same("all", kit.installed(), "10099 ".repeat(packs).strip());
            }
        });
    }

    private static void owner() {
        Edge.of("P48", "NONE without one.", "Returns the package;").holds(() -> {
            Kit kit = wished(Kit.of(2).full(0, 10099, 1 << 30, 0, 0).full(1, 10099, 1, 0, 0));
            Kit.same("nothing", kit.row(31, kit.x::owner), "-1" + " -1".repeat(30));
            kit.x.install();
            Kit.same("two", kit.row(31, kit.x::owner), "1" + " -1".repeat(29) + " 0");
            kit.x.root(1);
            Kit.same("another root", kit.row(31, kit.x::owner), "-1" + " -1".repeat(30));
        });
        Edge.of("P48", "- `file`: 0 to 30", "Throws `IllegalArgumentException` if file is out of range")
                .holds(() -> {
            Kit kit = wished(Kit.of(1).full(0, 10099, MAX, 0, 0));
            kit.outside("file", 0, 30, ARGUMENT, kit.x::owner);
            kit.x.install();
            kit.outside("file", 0, 30, ARGUMENT, kit.x::owner);
            Kit.same("the least and the greatest", kit.x.owner(0) + kit.x.owner(30), 0);
        });
    }

    private static void clashes() {
        Edge.of("P49", "Returns how many there are.").holds(() -> {
            Kit.same("nothing", new Kit().x.clashes(), 0);
            Kit kit = wished(Kit.of(1).full(0, 10099, MAX, 0, 0));
            Kit.same("one version", kit.x.clashes(), 0);
            Kit two = wished(Kit.of(2).full(0, 10099, MAX, 0, 0).full(1, 10099, MAX, 0, 0));
            Kit.same("all files", two.x.clashes(), 31);
            two.x.backTo(-1);
            Kit.same("nothing", two.x.clashes(), 0);
            Kit three = wished(Kit.of(3).full(0, 10099, 1, 0, 0).full(1, 10099, 1 | 1 << 30, 0, 0)
                    .full(2, 10099, 1 | 1 << 30, 0, 0));
            Kit.same("each once", three.x.clashes(), 2);
            int[][] files = {{1, 1, 2}, {1, 2, 1}, {2, 1, 1}, {3, 1, 2}, {1, 3, 2}, {1, 2, 3}, {1, 2, 4}};
            int[] due = {1, 1, 1, 2, 2, 2, 0};
            for (int k = 0; k < files.length; k++) {
                Kit kits = Kit.of(3);
                for (int p = 0; p < 3; p++) {
                    kits.full(p, 10099, files[k][p], 0, 0);
                }
                Kit.same("world " + k, wished(kits).x.clashes(), due[k]);
            }
        });
    }

    private static void fails() {
        Edge.of("P50", "- `fails`: whether it fails; at first none does").holds(() -> {
            Kit kit = Kit.of(5);
            for (int k = 0; k < 40; k++) {
                kit.v(k / 8, 99 + 100 * k);
            }
            for (int k = 0; k < 40; k++) {
                Kit.same("at first", kit.x.fails(k / 8, 99 + 100 * k, true), false);
            }
            for (int k = 0; k < 40; k++) {
                Kit.same("told to", kit.x.fails(k / 8, 99 + 100 * k, false), true);
            }
        });
        Edge.of("P50", "Returns whether it failed before.").holds(() -> {
            Kit kit = ones(1);
            boolean[] told = {false, false, true, true, false, false, true};
            for (int k = 1; k < told.length; k++) {
                Kit.same("before", kit.x.fails(0, 10099, told[k]), told[k - 1]);
            }
        });
        Edge.of("P50", "- `pack`: number of a package", "- `code`: code of a version of it",
                "Throws `IndexOutOfBoundsException` if there is no such package or version").holds(() -> {
            Kit kit = Kit.of(2).v(0, 10099).v(1, 20099);
            kit.noPackage("fails", pack -> kit.x.fails(pack, 10099, true));
            for (int code : new int[] {20099, 10098, 0, -1, MAX}) {
                kit.unread("code " + code, INDEX, () -> kit.x.fails(0, code, true));
            }
        });
    }

    private static void scripts() {
        Edge.of("P51", "Returns the number of its packages;").holds(() -> {
            Kit.same("nothing", new Kit().x.scripts(), 0);
            for (int packs = 1; packs <= 12; packs++) {
                Kit.same("all", wished(ones(packs)).x.scripts(), packs);
            }
        });
        Edge.of("P51", "if there is a ring, the length of this with a minus.").holds(() -> {
            Kit.same("the least", scripted("b", "a", "").x.scripts(), -2);
            for (int packs = 3; packs <= 12; packs++) {
                String[] needs = new String[packs];
                for (int p = 0; p < packs; p++) {
                    needs[p] = letter((p + 1) % packs);
                }
                Kit.same("all", scripted(needs).x.scripts(), -packs);
            }
        });
    }

    private static void scriptAt() {
        Edge.of("P52", "- `place`: 0 for the first one", "Returns the package.",
                "Throws `IndexOutOfBoundsException` if there is no such place").holds(() -> {
            Kit none = new Kit();
            none.outside("of nothing", 0, -1, INDEX, none.x::scriptAt);
            Kit order = scripted("c", "", "");
            Kit.same("first and last", order.x.scriptAt(0) * 10 + order.x.scriptAt(2), 10);
            order.outside("place", 0, 2, INDEX, order.x::scriptAt);
            Kit ring = scripted("", "c", "b");
            Kit.same("first and last", ring.x.scriptAt(0) * 10 + ring.x.scriptAt(1), 12);
            ring.outside("place in the ring", 0, 1, INDEX, ring.x::scriptAt);
        });
    }
}
