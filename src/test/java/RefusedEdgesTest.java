import java.util.ArrayList;
import java.util.List;
import java.util.function.ToLongFunction;

/** Refused calls, one behind the other on one object, up to the last of its 512 calls. */
public final class RefusedEdgesTest {
    private static final int CALLS = 512;

    public static void main(String[] args) {
        Due due = new Due();
        for (int[] one : Edge.FRACTIONS) {
            throwsChangesNothing(due, one[0], one[1]);
            refusedChangesNothing(due, one[0], one[1]);
            noneChangesNothing(due, one[0], one[1]);
        }
        rightAfterRefused(due);
        nothingOfTheOneBefore(due);
        lastCallIsRight(due);
        lastCallIsRefused(due);
        lastCallMoves(due);
        due.end();
    }

    private static List<Due.Call> throwing(SternDesk desk) {
        List<Due.Call> all = new ArrayList<>();
        all.add(() -> desk.take(-1, 1));
        all.add(() -> desk.take(100001, 1));
        all.add(() -> desk.take(1, 0));
        all.add(() -> desk.take(1, 100001));
        all.add(() -> desk.near(0, 0, 0));
        all.add(() -> desk.near(1001, 0, 0));
        all.add(() -> desk.near(1, -1, 0));
        all.add(() -> desk.near(1, 3, 0));
        all.add(() -> desk.near(1, 0, -1));
        all.add(() -> desk.near(1, 0, 2));
        all.add(() -> desk.between(-1, 1, 1, 1));
        all.add(() -> desk.between(5001, 1, 1, 1));
        all.add(() -> desk.between(0, 0, 1, 1));
        all.add(() -> desk.between(0, 5001, 1, 1));
        all.add(() -> desk.between(0, 1, -1, 1));
        all.add(() -> desk.between(0, 1, 5001, 1));
        all.add(() -> desk.between(0, 1, 1, 0));
        all.add(() -> desk.between(0, 1, 1, 5001));
        return all;
    }

    private static void unchanged(Due due, String name, SternDesk desk, int p, int q) {
        Plain plain = Plain.with(p, q);
        due.atHand(name, desk, p, q);
        due.is(name + ", then terms()", desk.terms(), plain.terms());
        due.is(name + ", then term(0)", desk.term(0), plain.term(0));
        int last = plain.terms() - 1;
        due.is(name + ", then term(" + last + ")", desk.term(last), plain.term(last));
        due.is(name + ", then term(" + (last + 1) + ")", desk.term(last + 1), -1);
    }

    /** "What throws changes nothing." */
    private static void throwsChangesNothing(Due due, int p, int q) {
        SternDesk desk = Plain.deskWith(p, q);
        List<Due.Call> all = throwing(desk);
        for (int i = 0; i < all.size(); i++) {
            String name = p + " / " + q + ": throwing call " + i;
            due.refused(name, all.get(i));
            unchanged(due, name, desk, p, q);
        }
    }

    /** "0, and nothing is changed", in promises 9, 10, 12 and 14. */
    private static void refusedChangesNothing(Due due, int p, int q) {
        List<ToLongFunction<SternDesk>> all = new ArrayList<>();
        all.add(desk -> desk.go(-1, 1));
        all.add(desk -> desk.go(2, 1));
        all.add(desk -> desk.go(0, -1));
        all.add(desk -> desk.go(1, 100001));
        all.add(desk -> desk.go(0, 100000));
        all.add(desk -> desk.go(1, 100000));
        all.add(desk -> desk.between(1, 1, 1, 1));
        all.add(desk -> desk.between(1, 1, 4999, 5000));
        all.add(desk -> desk.pick(0, 0));
        all.add(desk -> desk.pick(201, 0));
        all.add(desk -> desk.pick(1, 2));
        all.add(desk -> desk.pick(200, -1));
        all.add(desk -> desk.pick(200, 12233));
        if (p == 0 || p == q) {
            all.add(SternDesk::up);
        }
        answered(due, p, q, all, 0);
    }

    private static void answered(Due due, int p, int q, List<ToLongFunction<SternDesk>> all, long want) {
        SternDesk desk = Plain.deskWith(p, q);
        for (int i = 0; i < all.size(); i++) {
            String name = p + " / " + q + ": call " + i + " that is to answer " + want;
            due.is(name, all.get(i).applyAsLong(desk), want);
            unchanged(due, name, desk, p, q);
        }
    }

    /** "NONE": telling that there is none changes nothing. */
    private static void noneChangesNothing(Due due, int p, int q) {
        List<ToLongFunction<SternDesk>> all = new ArrayList<>();
        all.add(desk -> desk.part(-1));
        all.add(desk -> desk.part(2));
        all.add(desk -> desk.term(-1));
        all.add(desk -> desk.term(24));
        all.add(desk -> desk.convergent(-1, 0));
        all.add(desk -> desk.convergent(24, 1));
        all.add(desk -> desk.convergent(0, 2));
        all.add(desk -> desk.way(-1));
        all.add(desk -> desk.way(2));
        all.add(desk -> desk.row(0));
        all.add(desk -> desk.row(201));
        all.add(desk -> desk.place(0));
        all.add(desk -> desk.place(201));
        all.add(desk -> desk.floors(-1));
        all.add(desk -> desk.floors(100001));
        answered(due, p, q, all, -1);
    }

    /** "What throws changes nothing": the calls that follow go on from what was at hand before. */
    private static void rightAfterRefused(Due due) {
        int count = throwing(new SternDesk()).size();
        for (int i = 0; i < count; i++) {
            SternDesk desk = Plain.deskWith(355, 113);
            String name = "355 / 113: throwing call " + i;
            due.refused(name, throwing(desk).get(i));
            due.is(name + ", then go(1, 1)", desk.go(1, 1), 1);
            due.refused(name + " again", throwing(desk).get(i));
            due.atHand(name + ", then go(1, 1)", desk, 377, 120);
            due.is(name + ", then up()", desk.up(), 1);
            due.atHand(name + ", then up()", desk, 355, 113);
            due.is(name + ", then near(100, 2, 0)", desk.near(100, 2, 0), 311);
            due.is(name + ", then sawteeth()", desk.sawteeth(), -504);
        }
    }

    /** "None such": a longer fraction that was at hand before leaves nothing behind. */
    private static void nothingOfTheOneBefore(Due due) {
        SternDesk desk = Plain.deskWith(46368, 75025);
        desk.take(1, 3);
        String name = "46368 / 75025, then take(1, 3): ";
        for (int i = 2; i <= 24; i++) {
            due.is(name + "term(" + i + ")", desk.term(i), -1);
            due.is(name + "convergent(" + i + ", 0)", desk.convergent(i, 0), -1);
            due.is(name + "run(" + (i - 1) + ")", desk.run(i - 1), 0);
        }
        due.is(name + "way(0)", desk.way(0), 2);
        due.is(name + "way(1)", desk.way(1), 1);
        due.is(name + "near(2, 2, 1)", desk.near(2, 2, 1), 2);
        due.is(name + "check()", desk.check(), 1);
        // Its terms are 0 1 2 3 4 5, of which no two behind 1 / 3 make up for each other.
        desk.take(157, 225);
        desk.take(1, 3);
        due.is("157 / 225, then take(1, 3): sawteeth()", desk.sawteeth(), 1);
        desk.take(46368, 75025);
        desk.take(0, 1);
        due.is("then take(0, 1): run(0)", desk.run(0), 0);
        desk.take(46368, 75025);
        desk.take(1, 1);
        due.is("then take(1, 1): run(0)", desk.run(0), 0);
        due.is("then take(1, 1): way(0)", desk.way(0), 0);
    }

    /** An object whose first calls, so many, have all been refused; 46368 / 75025 is at hand. */
    private static SternDesk after(Due due, int calls) {
        SternDesk desk = Plain.deskWith(46368, 75025);
        List<Due.Call> all = throwing(desk);
        for (int i = 1; i < calls; i++) {
            due.refused("call " + (i + 1), all.get(i % all.size()));
        }
        return desk;
    }

    /** "An object is used for at most 512 calls": the last of them still answers right. */
    private static void lastCallIsRight(Due due) {
        due.is("call 512: part(0)", after(due, CALLS - 1).part(0), 46368);
        due.is("call 512: part(1)", after(due, CALLS - 1).part(1), 75025);
        due.is("call 512: terms()", after(due, CALLS - 1).terms(), 24);
        due.is("call 512: term(23)", after(due, CALLS - 1).term(23), 2);
        due.is("call 512: convergent(23, 1)", after(due, CALLS - 1).convergent(23, 1), 75025);
        due.is("call 512: way(0)", after(due, CALLS - 1).way(0), 23);
        due.is("call 512: run(0)", after(due, CALLS - 1).run(0), -1);
        due.is("call 512: near(1000, 2, 1)", after(due, CALLS - 1).near(1000, 2, 1), 987);
        due.is("call 512: row(200)", after(due, CALLS - 1).row(200), 12233);
        due.is("call 512: place(1)", after(due, CALLS - 1).place(1), 1);
        due.is("call 512: floors(3)", after(due, CALLS - 1).floors(3), 1);
        due.is("call 512: check()", after(due, CALLS - 1).check(), 1);
        due.is("call 512: go(0, 0)", after(due, CALLS - 1).go(0, 0), 1);
        due.is("call 512: up()", after(due, CALLS - 1).up(), 1);
        due.is("call 512: pick(200, 1)", after(due, CALLS - 1).pick(200, 1), 1);
        due.is("call 512: between(0, 1, 1, 5000)", after(due, CALLS - 1).between(0, 1, 1, 5000), 1);
    }

    /** "at most 512 calls": the last of them is still refused. */
    private static void lastCallIsRefused(Due due) {
        SternDesk taking = after(due, CALLS - 1);
        due.refused("call 512: take(1, 0)", () -> taking.take(1, 0));
        due.is("call 512: go(2, 0)", after(due, CALLS - 1).go(2, 0), 0);
        due.is("call 512: pick(200, 12233)", after(due, CALLS - 1).pick(200, 12233), 0);
        due.is("call 512: floors(100001)", after(due, CALLS - 1).floors(100001), -1);
    }

    /** "at most 512 calls": 511 calls that all move, and the last one that looks. */
    private static void lastCallMoves(Due due) {
        for (int what = 0; what <= 1; what++) {
            SternDesk desk = new SternDesk();
            for (int i = 0; i < CALLS - 1; i++) {
                due.is("go(1, 1), call " + (i + 1), desk.go(1, 1), 1);
            }
            due.is("call 512: part(" + what + ")", desk.part(what), what == 0 ? 512 : 1);
        }
    }
}
