import java.util.ArrayList;
import java.util.List;

/** A question answers the same as the first one behind a change as behind all the others. */
public final class FirstQuestionTest {
    interface Question {
        Object of(Kitwarden x);
    }

    interface Change {
        void in(Kit kit, boolean isAsked);
    }

    private static final List<String> names = new ArrayList<>();
    private static final List<Question> questions = new ArrayList<>();

    public static void main(String[] args) {
        gather();
        check("nothing more", (kit, isAsked) -> { });
        check("none fits", FirstQuestionTest::refuse);
        check("undone", FirstQuestionTest::undo);
        check("undone to none", (kit, isAsked) -> {
            refuse(kit, isAsked);
            undo(kit, isAsked);
        });
        check("a ring", (kit, isAsked) -> kit.ahead(1, 10099, "a"));
        check("another order", (kit, isAsked) -> kit.ahead(0, 20099, "d|c"));
        check("a wish", (kit, isAsked) -> kit.wish("b|d"));
        check("no wish", (kit, isAsked) -> kit.x.unwish(2));
        check("a hold", (kit, isAsked) -> kit.x.hold(2, true));
        check("an install", (kit, isAsked) -> kit.x.install());
        check("nothing as the goal", (kit, isAsked) -> kit.x.backTo(-1));
        check("another root", (kit, isAsked) -> kit.x.root(2));
        check("a version", (kit, isAsked) -> kit.v(0, 30099));
        check("a ban", (kit, isAsked) -> kit.ban(2, 10099, "a"));
        check("an option", (kit, isAsked) -> kit.option(0, 20099, "b 2.0"));
        check("what it provides", (kit, isAsked) -> kit.x.provide(3, 20099, 0, 30099));
        Kit.end("FirstQuestionTest");
    }

    private static void add(String name, Question question) {
        names.add(name);
        questions.add(question);
    }

    private static void gather() {
        for (int k = 0; k < 8; k++) {
            int n = k;
            add("count " + n, x -> x.count(n));
            add("coreAt " + n, x -> x.coreAt(n, n % 5));
            add("proofAt " + n, x -> x.proofAt(n, n % 3));
            add("literalAt " + n, x -> x.literalAt(n, 0));
        }
        for (int k = 0; k < 5; k++) {
            int n = k;
            add("versionOf " + n, x -> x.versionOf(n));
            add("isOn " + n, x -> x.isOn(n));
            add("must " + n, x -> x.must(n, 10099));
            add("because " + n, x -> x.because(n));
            add("far " + n, x -> x.far(n));
            add("without " + n, x -> x.without(n));
            add("fetched " + n, x -> x.fetchAt(n, false));
            add("fetched of " + n, x -> x.fetchAt(n, true));
            add("planAt " + n, x -> x.planAt(n));
            add("scriptAt " + n, x -> x.scriptAt(n));
        }
        add("changes", Kitwarden::changes);
        add("fitting", Kitwarden::fitting);
        add("core", Kitwarden::core);
        add("proof", Kitwarden::proof);
        add("fetches", Kitwarden::fetches);
        add("plan", Kitwarden::plan);
        add("scripts", Kitwarden::scripts);
        add("orphans", Kitwarden::orphans);
        add("isSound", Kitwarden::isSound);
        add("errors", Kitwarden::errors);
        add("solve", x -> x.solve(false));
        add("solve least", x -> x.solve(true));
        add("takeLock", x -> x.takeLock(0));
        add("mergeLocks", x -> x.mergeLocks(0, 1));
        add("install", Kitwarden::install);
    }

    /** Each question as the first one behind the latest change, and behind all other questions. */
    private static void check(String what, Change latest) {
        for (int q = 0; q < questions.size(); q++) {
            Question question = questions.get(q);
            Kit fresh = world(latest, false);
            Kit asked = world(latest, true);
            Kit told = world(latest, false);
            told.all();
            Object due = Kit.answer(() -> question.of(told.x));
            String name = what + ": " + names.get(q);
            Kit.same(name + ", first", Kit.answer(() -> question.of(fresh.x)), due);
            Kit.same(name + ", behind others and a change", Kit.answer(() -> question.of(asked.x)), due);
        }
    }

    private static void ask(Kit kit, boolean isAsked) {
        if (isAsked) {
            kit.all();
        }
    }

    /** A world that is asked, or not, ahead of each of some changes. */
    private static Kit world(Change latest, boolean isAsked) {
        Kit kit = Kit.of(4);
        for (int p = 0; p < 4; p++) {
            kit.full(p, 10099, 1 << p, 5, p).full(p, 20099, 2 << p, 6, p);
        }
        kit.ahead(0, 10099, "b");
        kit.ahead(0, 20099, "b 1.0");
        kit.need(1, 10099, "c|d 2.0");
        kit.option(2, 10099, "d");
        kit.x.mirror();
        for (int p = 0; p < 4; p++) {
            kit.x.offer(0, p, 10099, p);
            kit.x.offer(0, p, 20099, p);
        }
        kit.wish("a 1.0");
        ask(kit, isAsked);
        kit.install();
        kit.wish("a");
        kit.wish("c#");
        kit.x.solve(false);
        kit.x.lock(0);
        ask(kit, isAsked);
        kit.need(2, 20099, "a 2.0");
        ask(kit, isAsked);
        kit.x.unwish(0);
        kit.x.solve(false);
        ask(kit, isAsked);
        latest.in(kit, isAsked);
        return kit;
    }

    private static void refuse(Kit kit, boolean isAsked) {
        kit.pin(3, "9.0");
        ask(kit, isAsked);
        kit.need(3, 10099, "a");
        ask(kit, isAsked);
        kit.ban(0, 20099, "c");
    }

    private static void undo(Kit kit, boolean isAsked) {
        kit.wish("d 1.0");
        kit.x.root(1);
        ask(kit, isAsked);
        kit.wish("d");
        ask(kit, isAsked);
        kit.x.undo();
        ask(kit, isAsked);
        kit.x.undo();
        kit.x.undo();
    }
}
