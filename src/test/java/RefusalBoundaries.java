import java.util.List;
import java.util.function.Supplier;
import java.util.function.ToLongFunction;

/** What is refused, by which of the refusals, and that it leaves everything as it was. */
final class RefusalBoundaries extends Boundaries {
    private record Call(String name, long answer, ToLongFunction<FortyHouses> on) { }

    RefusalBoundaries(Sentences sentences) {
        super(sentences);
    }

    @Override
    void run() {
        term("Refused, and nothing changes, the first of these: BAD (a number is not as told, or there is no such thing), "
            + "STATE (as told), FULL.");
        for (Call call : alwaysBad()) {
            leaves(call, FortyHouses::new);
            leaves(call, RefusalBoundaries::some);
            leaves(call, RefusalBoundaries::full);
        }
        for (Call call : badOfNone()) {
            leaves(call, FortyHouses::new);
        }
        for (Call call : otherRefusals()) {
            leaves(call, RefusalBoundaries::full);
        }
        for (Call call : asking()) {
            leaves(call, RefusalBoundaries::some);
            leaves(call, RefusalBoundaries::full);
        }
        leaves(new Call("back(0)", STATE, x -> x.back(0)), FortyHouses::new);
        leaves(new Call("back(1)", STATE, x -> x.back(1)), RefusalBoundaries::some);
        leaves(new Call("laws()", -10 - 6, FortyHouses::laws), RefusalBoundaries::some);
    }

    /** The call answers so, and the object is as one that was made alike and not called. */
    private void leaves(Call call, Supplier<FortyHouses> maker) {
        FortyHouses called = maker.get();
        long answer = call.on.applyAsLong(called);
        if (call.answer != MAX) {
            due(call.name, answer, call.answer);
        }
        same("the state after " + call.name, Snapshot.of(called), Snapshot.of(maker.get()));
    }

    private static FortyHouses some() {
        FortyHouses x = withLaws("law 3 4 if ab else 5;law 6 7;");
        x.house(5, 1, 2, 3);
        x.finding(10, 20, 1);
        x.keep(0);
        x.house(6, 1, 2, 0);
        x.mend(0, 2, 3);
        x.finding(30, 40, 0);
        x.finding(50, 60, 0);
        x.stands(2, 0);
        x.span(33);
        x.weight(6, 1);
        Check.type(x, "law 5 @");
        return x;
    }

    private static FortyHouses full() {
        FortyHouses x = withLaws("law 3 4 if ab else 5;law 6 7;law 0 0;law 10 10;law 5 5;law 1 2 if f else 9;");
        for (int i = 0; i < 12; i++) {
            x.house(i + 1, i, i / 2, 1 + 4 * i);
        }
        for (int i = 0; i < 16; i++) {
            x.finding(i, 100 - i, i % 2);
        }
        x.keep(0);
        x.stands(15, 0);
        x.stands(15, 1);
        x.stands(15, 2);
        x.mend(11, 0, 0);
        x.keep(1);
        x.weight(3, 3);
        Check.type(x, " ".repeat(292) + "law 8 9;");
        return x;
    }

    /** Refused in every state. */
    private static List<Call> alwaysBad() {
        return List.of(
            new Call("house(0, 0, 0, 0)", BAD, x -> x.house(0, 0, 0, 0)),
            new Call("house(13, 0, 0, 0)", BAD, x -> x.house(13, 0, 0, 0)),
            new Call("house(3, 4, 0, 0)", BAD, x -> x.house(3, 4, 0, 0)),
            new Call("house(3, 0, 4, 0)", BAD, x -> x.house(3, 0, 4, 0)),
            new Call("house(3, 0, 0, 64)", BAD, x -> x.house(3, 0, 0, 64)),
            new Call("mend(12, 0, 0)", BAD, x -> x.mend(12, 0, 0)),
            new Call("mend(-1, 0, 0)", BAD, x -> x.mend(-1, 0, 0)),
            new Call("mend(0, 13, 0)", BAD, x -> x.mend(0, 13, 0)),
            new Call("mend(0, 0, -1)", BAD, x -> x.mend(0, 0, -1)),
            new Call("about(0, 4)", BAD, x -> x.about(0, 4)),
            new Call("more(-1, 2)", NO, x -> x.more(-1, 2)),
            new Call("luck(0, 2)", BAD, x -> x.luck(0, 2)),
            new Call("can(101, 1)", BAD, x -> x.can(101, 1)),
            new Call("between(6, 0)", NO, x -> x.between(6, 0)),
            new Call("priced(0, 3)", BAD, x -> x.priced(0, 3)),
            new Call("type(65, 0)", BAD, x -> x.type(65, 0)),
            new Call("type(65, 9)", BAD, x -> x.type(65, 9)),
            new Call("tenths(6, 0, 0)", BAD, x -> x.tenths(6, 0, 0)),
            new Call("misfit(6)", BAD, x -> x.misfit(6)),
            new Call("best(4)", BAD, x -> x.best(4)),
            new Call("span(1000)", BAD, x -> x.span(1000)),
            new Call("span(-1)", BAD, x -> x.span(-1)),
            new Call("sure(5, 5, 10, 0)", BAD, x -> x.sure(5, 5, 10, 0)),
            new Call("need(5, 5, 0, 0)", BAD, x -> x.need(5, 5, 0, 0)),
            new Call("finding(101, 0, 0)", BAD, x -> x.finding(101, 0, 0)),
            new Call("finding(0, -1, 0)", BAD, x -> x.finding(0, -1, 0)),
            new Call("finding(0, 0, 2)", BAD, x -> x.finding(0, 0, 2)),
            new Call("held(2, 0)", BAD, x -> x.held(2, 0)),
            new Call("stands(2, 2)", BAD, x -> x.stands(2, 2)),
            new Call("stands(1, 2)", BAD, x -> x.stands(1, 2)),
            new Call("stands(16, 0)", BAD, x -> x.stands(16, 0)),
            new Call("falls(1, 2)", BAD, x -> x.falls(1, 2)),
            new Call("weight(7, 0)", BAD, x -> x.weight(7, 0)),
            new Call("weight(6, 12)", BAD, x -> x.weight(6, 12)),
            new Call("keep(2)", BAD, x -> x.keep(2)),
            new Call("keep(-1)", BAD, x -> x.keep(-1)),
            new Call("back(2)", BAD, x -> x.back(2)),
            new Call("back(-1)", BAD, x -> x.back(-1)),
            new Call("count(6)", BAD, x -> x.count(6)));
    }

    /** What is refused as long as there is no such thing. */
    private static List<Call> badOfNone() {
        return List.of(
            new Call("about(0, 0)", BAD, x -> x.about(0, 0)),
            new Call("mend(0, 0, 0)", BAD, x -> x.mend(0, 0, 0)),
            new Call("luck(0, 0)", BAD, x -> x.luck(0, 0)),
            new Call("tenths(0, 0, 0)", BAD, x -> x.tenths(0, 0, 0)),
            new Call("misfit(0)", BAD, x -> x.misfit(0)),
            new Call("stands(1, 0)", BAD, x -> x.stands(1, 0)),
            new Call("weight(6, 0)", BAD, x -> x.weight(6, 0)),
            new Call("more(1, 0)", NO, x -> x.more(1, 0)),
            new Call("between(0, 0)", NO, x -> x.between(0, 0)),
            new Call("priced(0, 0)", STATE, x -> x.priced(0, 0)));
    }

    /** What is refused where every place is taken, and BAD ahead of it. */
    private static List<Call> otherRefusals() {
        return List.of(
            new Call("house(12, 12, 12, 63)", FULL, x -> x.house(12, 12, 12, 63)),
            new Call("house(12, 13, 12, 63)", BAD, x -> x.house(12, 13, 12, 63)),
            new Call("finding(100, 100, 1)", FULL, x -> x.finding(100, 100, 1)),
            new Call("finding(100, 100, 2)", BAD, x -> x.finding(100, 100, 2)),
            new Call("type(65, 1)", FULL, x -> x.type(65, 1)),
            new Call("type(65, 8)", FULL, x -> x.type(65, 8)),
            new Call("type(65, 9)", BAD, x -> x.type(65, 9)),
            new Call("stands(15, 3)", FULL, x -> x.stands(15, 3)),
            new Call("stands(15, 2)", BAD, x -> x.stands(15, 2)),
            new Call("stands(15, 15)", BAD, x -> x.stands(15, 15)),
            new Call("priced(0, 0)", STATE, x -> x.priced(0, 0)),
            new Call("priced(0, 3)", BAD, x -> x.priced(0, 3)),
            new Call("priced(1, 0)", STATE, x -> x.priced(1, 0)),
            new Call("between(1, 0)", NO, x -> x.between(1, 0)));
    }

    /** Calls that ask alone; what they answer is looked at elsewhere. */
    private static List<Call> asking() {
        return List.of(
            new Call("about(0, 0)", MAX, x -> x.about(0, 0)),
            new Call("more(-1, 0)", MAX, x -> x.more(-1, 0)),
            new Call("luck(0, 0)", MAX, x -> x.luck(0, 0)),
            new Call("can(50, 2)", MAX, x -> x.can(50, 2)),
            new Call("same()", MAX, FortyHouses::same),
            new Call("without()", MAX, FortyHouses::without),
            new Call("between(2, 0)", MAX, x -> x.between(2, 0)),
            new Call("priced(2, 0)", MAX, x -> x.priced(2, 0)),
            new Call("priced(2, 2)", MAX, x -> x.priced(2, 2)),
            new Call("tenths(0, 63, 0)", MAX, x -> x.tenths(0, 63, 0)),
            new Call("misfit(0)", MAX, x -> x.misfit(0)),
            new Call("best(3)", MAX, x -> x.best(3)),
            new Call("sure(5, 5, 9, 0)", MAX, x -> x.sure(5, 5, 9, 0)),
            new Call("need(5, 5, 0, 50)", MAX, x -> x.need(5, 5, 0, 50)),
            new Call("held(0, 2)", MAX, x -> x.held(0, 2)),
            new Call("falls(1, 1)", MAX, x -> x.falls(1, 1)),
            new Call("bears()", MAX, FortyHouses::bears),
            new Call("count(1)", MAX, x -> x.count(1)),
            new Call("trace()", MAX, FortyHouses::trace));
    }
}
