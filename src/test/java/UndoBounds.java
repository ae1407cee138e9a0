/** The term Undo, and promises 58 to 61. */
final class UndoBounds extends Bounds {
    UndoBounds(Checks checks, Sentences sentences) {
        super(checks, sentences);
    }

    @Override
    void test() {
        in("Terms");
        says("The calls of the methods to which commands correspond, and of run, that return normally are changes,"
                + " even if they have no effect.", this::changes);
        says("Up to 8 changes can be undone, the latest change first.", this::eightChanges);
        says("Undo does not affect the input buffer, the error position, the index of the failed command, the"
                + " formatted line, or the saved copy.", this::whatUndoLeaves);
        promise(58);
        says("Returns the number, 0 to 8.", this::undoable);
        promise(59);
        says("Returns the number of changes that can still be undone.", this::stillUndoable);
        says("Throws `IllegalStateException` if no change can be undone", this::nothingToUndo);
        promise(60);
        says("Saves a copy of everything that changes can change, replacing an earlier copy.", this::saved);
        says("Returns the number of places.", () -> {
            for (int i = 0; i <= 9; i++) {
                due("places", i, Scenes.places(i).save());
            }
        });
        promise(61);
        says("Restores the saved copy, which stays available.", this::restored);
        says("No changes can be undone afterwards.", this::restoredIsNotUndone);
        says("Returns the number of places.", () -> {
            for (int i = 0; i <= 9; i++) {
                RiverParcelService x = Scenes.places(i);
                x.save();
                Checks.outcomeOf(x::addPlace);
                due("places", i, x.restore());
            }
        });
        says("Throws `IllegalStateException` if there is no saved copy", this::nothingSaved);
    }

    /** Without undoable changes: parcel 0 waits, parcel 1 travels, link 1 is blocked. */
    private static RiverParcelService fresh() {
        RiverParcelService x = Scenes.river();
        x.post(0, 2, 4, 3);
        x.post(0, 2, 4, 3);
        x.send(1, 0);
        x.block(1);
        x.save();
        x.restore();
        return x;
    }

    private void change(String what, Question call) {
        RiverParcelService x = fresh();
        String before = Refusals.traces(() -> fresh(), (y, none) -> 0);
        call.of(x, 0);
        due(what + " is a change", 1, x.undoableCount());
        due("undo of " + what, before, Refusals.traces(() -> fresh(), (y, none) -> {
            call.of(y, 0);
            return y.undo();
        }));
    }

    private void changes() {
        change("addPlace", (x, none) -> x.addPlace());
        change("addLink", (x, none) -> x.addLink(2, 0, 9, 5));
        change("block", (x, none) -> x.block(0));
        change("open", (x, none) -> x.open(1));
        change("post", (x, none) -> x.post(2, 1, 9, 20));
        change("send", (x, none) -> x.send(0, 0));
        change("addStamps", (x, none) -> x.addStamps(0, 17));
        change("takeBack", (x, none) -> x.takeBack(0));
        change("dispatch", (x, none) -> x.dispatch());
        change("pass", (x, none) -> x.pass(120));
        change("run", (x, none) -> Scenes.run(x, "place;open 1;dispatch;hours 9;post 01 1*1"));
        RiverParcelService x = new RiverParcelService();
        due("a dispatch of nothing", 0, x.dispatch());
        due("is a change", 1, x.undoableCount());
        Scenes.run(x, "dispatch");
        due("also in a program", 2, x.undoableCount());
        due("undone", 1, x.undo());
        RiverParcelService y = Scenes.links(1);
        y.block(0);
        for (int i = 0; i < 3; i++) {
            y.undo();
        }
        y.addLink(1, 0, 2, 0);
        due("a link in the stead of an undone blocked one", false, y.isBlocked(0));
        noChanges();
    }

    private void noChanges() {
        RiverParcelService x = fresh();
        x.append('p');
        Checks.outcomeOf(x::run);
        Checks.outcomeOf(() -> Scenes.run(x, "hours;open 0"));
        Checks.outcomeOf(() -> x.pass(0));
        x.isConsistent();
        x.deliveredIf(60);
        x.canSend(0, 0);
        x.formatParcel(0);
        x.save();
        due("none of these is a change", 0, x.undoableCount());
    }

    private void eightChanges() {
        for (int changes = 1; changes <= 20; changes++) {
            RiverParcelService x = new RiverParcelService();
            for (int i = 1; i <= changes; i++) {
                x.pass(i);
            }
            int hour = changes * (changes + 1) / 2;
            int kept = Math.min(8, changes);
            for (int i = 0; i < kept; i++) {
                due("still undoable of " + changes, kept - 1 - i, x.undo());
                hour -= changes - i;
                due("the latest one first, of " + changes, hour, x.hour());
            }
            refused("no more of " + changes, STATE, x::undo);
            due("what stays of " + changes, hour, x.hour());
        }
    }

    private void whatUndoLeaves() {
        RiverParcelService x = fresh();
        Checks.outcomeOf(() -> Scenes.run(x, "hours;block 5"));
        Checks.outcomeOf(() -> Scenes.run(x, "plan"));
        x.pass(4);
        Scenes.type(x, "hours 0");
        x.formatParcel(0);
        x.save();
        x.undo();
        due("the hour is undone", 0, x.hour());
        due("the failed command", 1, x.failedCommand());
        due("the error position", 3, x.errorPosition());
        due("the line", "#0 4*3 @0 >2", Scenes.line(x));
        due("the buffer", 8, x.append('9'));
        due("is a program", 1, x.run());
        due("of 9 hours", 9, x.hour());
        x.undo();
        due("an undone program does not come back", 1, x.append('p'));
        x.restore();
        due("the saved copy", 4, x.hour());
    }

    private void undoable() {
        RiverParcelService x = new RiverParcelService();
        due("at first", 0, x.undoableCount());
        for (int i = 1; i <= 20; i++) {
            x.pass(1);
            due("after changes, " + i, Math.min(8, i), x.undoableCount());
        }
        x.undo();
        due("after undo", 7, x.undoableCount());
        x.dispatch();
        due("after one more change", 8, x.undoableCount());
        x.dispatch();
        due("full", 8, x.undoableCount());
        x.save();
        due("save leaves it", 8, x.undoableCount());
        Checks.outcomeOf(x::restore);
        due("restore empties it", 0, x.undoableCount());
    }

    private void stillUndoable() {
        for (int changes = 1; changes <= 9; changes++) {
            RiverParcelService x = new RiverParcelService();
            for (int i = 0; i < changes; i++) {
                x.pass(1);
            }
            int kept = Math.min(8, changes);
            for (int left = kept - 1; left >= 0; left--) {
                due("of " + changes, left, x.undo());
                due("undoable of " + changes, left, x.undoableCount());
            }
            x.pass(9);
            due("a change after them", 1, x.undoableCount());
            due("undone", 0, x.undo());
            due("the hour", changes - kept, x.hour());
        }
    }

    private void nothingToUndo() {
        RiverParcelService x = new RiverParcelService();
        refused("at first", STATE, x::undo);
        Checks.outcomeOf(() -> x.block(0));
        refused("after a refused call", STATE, x::undo);
        x.save();
        refused("after save", STATE, x::undo);
        x.addPlace();
        x.undo();
        refused("after undo of the only one", STATE, x::undo);
        due("no places", 0, x.placeCount());
        for (int i = 0; i < 9; i++) {
            x.addPlace();
        }
        for (int i = 0; i < 8; i++) {
            x.undo();
        }
        refused("the ninth change is kept no longer", STATE, x::undo);
        due("its place stays", 1, x.placeCount());
        x.addPlace();
        x.restore();
        refused("after restore", STATE, x::undo);
    }

    private static RiverParcelService full() {
        RiverParcelService x = Scenes.places(9);
        for (int i = 0; i < 20; i++) {
            x.addLink(i % 9, (i + 1) % 9, 1 + i % 9, i % 6);
        }
        for (int i = 0; i < 12; i++) {
            x.post(i % 9, (i + 2) % 9, 5, 20);
        }
        x.block(19);
        x.dispatch();
        x.pass(1);
        return x;
    }

    /** The state at the time of save, told after other calls and restore. */
    private void savedThen(String what, Question calls) {
        // Only the number of changes that can be undone is another one: 8 before, 0 afterwards.
        String want = Refusals.answers(savedFull()).replaceFirst("^(?<before>(\\S+ ){7})8", "${before}0");
        RiverParcelService x = savedFull();
        calls.of(x, 0);
        x.restore();
        due("restored after " + what, want, Refusals.answers(x));
    }

    private static RiverParcelService savedFull() {
        RiverParcelService x = full();
        x.save();
        return x;
    }

    private void saved() {
        savedThen("nothing", (x, none) -> 0);
        savedThen("undo", (x, none) -> x.undo() + x.undo() + x.undo());
        savedThen("pass", (x, none) -> x.pass(120));
        savedThen("takeBack", (x, none) -> x.pass(8) + x.takeBack(x.idAt(0)));
        savedThen("open and block", (x, none) -> x.open(19) + x.block(0));
        savedThen("dispatches", (x, none) -> x.dispatch() + x.pass(9) + x.dispatch());
        savedThen("undo and other links", (x, none) -> {
            for (int i = 0; i < 8; i++) {
                x.undo();
            }
            return x.post(0, 1, 1, 1);
        });
        RiverParcelService y = Scenes.places(2);
        y.save();
        y.addPlace();
        due("of an earlier copy", 3, y.save());
        y.addPlace();
        due("nothing is left", 3, y.restore());
    }

    private void restored() {
        RiverParcelService x = new RiverParcelService();
        due("a copy of nothing", 0, x.save());
        x.addPlace();
        due("it is a copy", 0, x.restore());
        due("no places", 0, x.placeCount());
        for (int i = 0; i < 9; i++) {
            x.addPlace();
            x.addPlace();
            due("again and again", 0, x.restore());
            due("no places again", 0, x.placeCount());
        }
        RiverParcelService y = fresh();
        y.restore();
        y.send(0, 0);
        y.pass(2);
        y.restore();
        due("what followed restore is not in it", "0 3 2 2 0 0 1 0 0.5 2.5 : 0@0 1~2", Refusals.sizes(y));
    }

    private void restoredIsNotUndone() {
        RiverParcelService x = Scenes.places(9);
        x.save();
        due("eight before", 8, x.undoableCount());
        x.restore();
        due("none", 0, x.undoableCount());
        refused("undo", STATE, x::undo);
        due("the places stay", 9, x.placeCount());
        x.pass(5);
        due("one after it", 1, x.undoableCount());
        due("it is undone", 0, x.undo());
        due("up to restore", 0, x.hour());
        refused("not beyond it", STATE, x::undo);
    }

    private void nothingSaved() {
        RiverParcelService x = Scenes.places(1);
        refused("at first", STATE, x::restore);
        due("the places stay", 1, x.placeCount());
        due("the changes stay", 1, x.undoableCount());
        x.undo();
        x.save();
        due("a copy of nothing is one", 0, x.restore());
        refused("another object has none", STATE, () -> new RiverParcelService().restore());
    }
}
