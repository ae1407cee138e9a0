/** Promises 58 to 61: undo, save and restore. */
public final class UndoTest {
    private static final Checks CHECKS = new Checks();
    private static final Class<IllegalStateException> STATE = IllegalStateException.class;

    public static void main(String[] args) {
        everyChange();
        eightChanges();
        refusedCalls();
        noChanges();
        changesAfterUndo();
        undoneRun();
        whatUndoLeaves();
        saving();
        whatRestoreLeaves();
        CHECKS.end();
    }

    private static void undone(RiverParcelService x, String what, int left) {
        CHECKS.due("58: before undoing " + what, left + 1, x.undoableCount());
        CHECKS.due("59: undo of " + what, left, x.undo());
        CHECKS.due("58: after undoing " + what, left, x.undoableCount());
    }

    private static RiverParcelService freshRiver() {
        RiverParcelService x = Scenes.places(3);
        x.addLink(0, 1, 2, 5);
        x.addLink(1, 2, 3, 5);
        x.post(0, 2, 4, 3);
        x.save();
        x.restore();
        return x;
    }

    private static void everyChange() {
        RiverParcelService x = freshRiver();
        x.addPlace();
        undone(x, "addPlace", 0);
        CHECKS.due("59: places", 3, x.placeCount());
        x.addLink(0, 2, 1, 1);
        undone(x, "addLink", 0);
        CHECKS.due("59: links", 2, x.linkCount());
        x.addLink(0, 2, 1, 1);
        x.block(2);
        undone(x, "block", 1);
        undone(x, "addLink", 0);
        x.addLink(0, 2, 1, 1);
        CHECKS.due("59: a new link in its stead is not blocked", false, x.isBlocked(2));
        undone(x, "addLink", 0);
        x.block(1);
        undone(x, "block", 0);
        CHECKS.due("59: not blocked", false, x.isBlocked(1));
        x.block(1);
        x.open(1);
        undone(x, "open", 1);
        CHECKS.due("59: blocked again", true, x.isBlocked(1));
        undone(x, "block", 0);
        x.post(0, 1, 1, 1);
        undone(x, "post", 0);
        CHECKS.due("59: parcels", 1, x.parcelCount());
        CHECKS.due("59: posted", 1, x.postedTotal());
        CHECKS.due("59: the id is free again", 1, x.post(1, 0, 2, 2));
        undone(x, "post", 0);
        undoneTravels(x);
    }

    private static void undoneTravels(RiverParcelService x) {
        x.send(0, 0);
        undone(x, "send", 0);
        CHECKS.due("59: it waits", 0, x.placeOf(0));
        CHECKS.due("59: stamps", 3, x.stampsOf(0));
        CHECKS.due("59: used stamps", 0, x.usedStamps());
        x.addStamps(0, 5);
        undone(x, "addStamps", 0);
        CHECKS.due("59: stamps before", 3, x.stampsOf(0));
        x.takeBack(0);
        undone(x, "takeBack", 0);
        CHECKS.due("59: it is back", 4, x.weightOf(0));
        CHECKS.due("59: taken back", 0, x.takenBackTotal());
        x.dispatch();
        undone(x, "dispatch", 0);
        CHECKS.due("59: it waits still", false, x.isTravelling(0));
        x.dispatch();
        x.pass(2);
        x.dispatch();
        x.pass(3);
        CHECKS.due("45: delivered", 1, x.deliveredTotal());
        undone(x, "pass", 3);
        CHECKS.due("59: delivered", 0, x.deliveredTotal());
        CHECKS.due("59: it travels", 5, x.arrivalOf(0));
        CHECKS.due("59: the hour", 2, x.hour());
    }

    private static void eightChanges() {
        RiverParcelService x = new RiverParcelService();
        CHECKS.refused("59: nothing to undo", STATE, x::undo);
        for (int i = 1; i <= 20; i++) {
            x.pass(i);
            CHECKS.due("58: undoable", Math.min(i, 8), x.undoableCount());
        }
        int hour = 210;
        for (int i = 0; i < 8; i++) {
            undone(x, "pass", 7 - i);
            hour -= 20 - i;
            CHECKS.due("59: hour", hour, x.hour());
        }
        CHECKS.refused("59: no ninth", STATE, x::undo);
        CHECKS.due("59: the hour stays", hour, x.hour());
    }

    private static void refusedCalls() {
        RiverParcelService x = freshRiver();
        Checks.outcomeOf(() -> x.pass(0));
        Checks.outcomeOf(() -> x.block(7));
        Checks.outcomeOf(() -> x.send(0, 1));
        Checks.outcomeOf(x::run);
        Scenes.type(x, "hours 0");
        Checks.outcomeOf(x::run);
        CHECKS.due("58: a refused call is no change", 0, x.undoableCount());
    }

    private static void noChanges() {
        RiverParcelService x = freshRiver();
        x.earliestArrival(0, 1, 3);
        x.isConsistent();
        x.formatLink(0);
        x.deliveredIf(5);
        x.save();
        x.append('p');
        CHECKS.due("58: these are no changes", 0, x.undoableCount());
        x.block(0);
        CHECKS.due("10: nothing is sent", 0, x.dispatch());
        CHECKS.due("58: a change without an effect is one", 2, x.undoableCount());
    }

    private static void changesAfterUndo() {
        RiverParcelService x = new RiverParcelService();
        for (int i = 0; i < 8; i++) {
            x.addPlace();
        }
        x.undo();
        x.undo();
        CHECKS.due("58: two are undone", 6, x.undoableCount());
        x.pass(5);
        CHECKS.due("58: one more", 7, x.undoableCount());
        undone(x, "pass", 6);
        CHECKS.due("59: hour", 0, x.hour());
        CHECKS.due("59: places", 6, x.placeCount());
        undone(x, "addPlace", 5);
        CHECKS.due("59: places before", 5, x.placeCount());
    }

    private static void undoneRun() {
        RiverParcelService x = freshRiver();
        Scenes.type(x, "dispatch;hours 2;dispatch;place");
        x.run();
        undone(x, "run", 0);
        CHECKS.due("59: hour", 0, x.hour());
        CHECKS.due("59: places", 3, x.placeCount());
        CHECKS.due("59: it waits", 0, x.placeOf(0));
        CHECKS.due("59: used stamps", 0, x.usedStamps());
    }

    private static void whatUndoLeaves() {
        RiverParcelService x = freshRiver();
        Scenes.type(x, "block 5");
        Checks.outcomeOf(x::run);
        Scenes.type(x, "plan");
        Checks.outcomeOf(x::run);
        x.pass(4);
        Scenes.type(x, "hour");
        x.formatParcel(0);
        x.save();
        x.undo();
        CHECKS.due("59: the failed command stays", 0, x.failedCommand());
        CHECKS.due("59: the error position stays", 3, x.errorPosition());
        CHECKS.due("59: the line stays", "#0 4*3 @0 >2", Scenes.line(x));
        CHECKS.due("59: the buffer stays", 5, x.append('s'));
        CHECKS.due("59: and is a program", 1, x.run());
        CHECKS.due("12: one hour", 1, x.hour());
        x.restore();
        CHECKS.due("59: the saved copy stays", 4, x.hour());
    }

    private static void saving() {
        RiverParcelService x = freshRiver();
        RiverParcelService y = new RiverParcelService();
        CHECKS.refused("61: no saved copy", STATE, y::restore);
        CHECKS.due("60: save without places", 0, y.save());
        y.addPlace();
        CHECKS.due("61: restore without places", 0, y.restore());
        CHECKS.due("61: no places", 0, y.placeCount());
        x.dispatch();
        x.pass(1);
        x.block(1);
        CHECKS.due("60: save", 3, x.save());
        CHECKS.due("60: save is no change and keeps the changes", 3, x.undoableCount());
        x.open(1);
        x.pass(1);
        x.dispatch();
        x.post(0, 1, 1, 1);
        x.takeBack(1);
        x.addPlace();
        CHECKS.due("61: restore", 3, x.restore());
        CHECKS.due("61: places", 3, x.placeCount());
        CHECKS.due("61: hour", 1, x.hour());
        CHECKS.due("61: blocked", true, x.isBlocked(1));
        CHECKS.due("61: travelling", 2, x.arrivalOf(0));
        CHECKS.due("61: posted", 1, x.postedTotal());
        CHECKS.due("61: taken back", 0, x.takenBackTotal());
        CHECKS.due("61: used stamps", 1, x.usedStamps());
        CHECKS.due("61: no changes can be undone", 0, x.undoableCount());
        CHECKS.refused("59: no changes can be undone", STATE, x::undo);
        CHECKS.due("61: the next free id", 1, x.post(0, 1, 1, 1));
        x.restore();
        CHECKS.due("61: the copy stays available", 1, x.parcelCount());
        x.addPlace();
        x.save();
        x.addPlace();
        CHECKS.due("60: an earlier copy is replaced", 4, x.restore());
    }

    private static void whatRestoreLeaves() {
        RiverParcelService x = freshRiver();
        Scenes.type(x, "hours;block 5");
        Checks.outcomeOf(x::run);
        Scenes.type(x, "p");
        Checks.outcomeOf(x::run);
        Scenes.type(x, "plac");
        x.formatLink(0);
        x.restore();
        CHECKS.due("61: the failed command stays", 1, x.failedCommand());
        CHECKS.due("61: the error position stays", 1, x.errorPosition());
        CHECKS.due("61: the line stays", "0(0-1) 2h/5", Scenes.line(x));
        CHECKS.due("61: the buffer stays", 5, x.append('e'));
        CHECKS.due("61: and is a program", 1, x.run());
        CHECKS.due("61: a change again", 1, x.undoableCount());
    }
}
