import java.util.function.Supplier;

/** The section Errors: what a refused call leaves, and which exception comes first. */
final class Refusals extends Bounds {
    Refusals(Checks checks, Sentences sentences) {
        super(checks, sentences);
    }

    @Override
    void test() {
        in("Terms");
        says("A method that throws an exception leaves everything unchanged, unless its description says otherwise.",
                () -> {
                    refusedChanges();
                    refusedSends();
                    refusedNetworkQuestions();
                    refusedParcelQuestions();
                    refusedWhenFull();
                    refusedWhenEmpty();
                    refusedRuns();
                });
        says("If several conditions of a method apply, the exception that is listed first is thrown.", () -> {
            firstOfChanges();
            firstOfQuestions();
            firstOfPrograms();
        });
    }

    /** Hour 1 with a parcel on its way, a heavy one and one without stamps; everything is set that can be. */
    private static RiverParcelService busyTyping(String text) {
        RiverParcelService x = Scenes.places(4);
        x.addLink(0, 1, 2, 0);
        x.addLink(0, 1, 5, 1);
        x.addLink(1, 2, 3, 1);
        x.addLink(0, 2, 4, 5);
        x.post(0, 1, 9, 20);
        x.post(0, 2, 9, 1);
        x.save();
        x.post(0, 1, 2, 0);
        x.block(3);
        Checks.outcomeOf(() -> Scenes.run(x, "p"));
        Checks.outcomeOf(() -> Scenes.run(x, "hours;block 9"));
        x.pass(1);
        x.send(0, 0);
        x.formatParcel(0);
        Scenes.type(x, text);
        return x;
    }

    private static RiverParcelService busy() {
        return busyTyping("hours 7");
    }

    private static RiverParcelService full() {
        RiverParcelService x = Scenes.places(9);
        for (int i = 0; i < 20; i++) {
            x.addLink(i % 9, (i + 1) % 9, 1, 5);
        }
        for (int i = 0; i < 12; i++) {
            x.post(i % 9, (i + 1) % 9, 1, 20);
        }
        Scenes.type(x, "place;place;place;place;place;place;place;place;place;place;");
        return x;
    }

    /** What tells a change of the service at a glance. */
    static String sizes(RiverParcelService x) {
        StringBuilder text = new StringBuilder();
        text.append(x.hour()).append(' ').append(x.placeCount()).append(' ').append(x.linkCount());
        text.append(' ').append(x.postedTotal()).append(' ').append(x.deliveredTotal());
        text.append(' ').append(x.takenBackTotal()).append(' ').append(x.usedStamps());
        text.append(' ').append(x.undoableCount()).append(' ').append(Checks.outcomeOf(x::blockedShare));
        text.append(' ').append(Checks.outcomeOf(x::meanStamps)).append(" :");
        for (int i = 0; i < x.parcelCount(); i++) {
            int id = x.idAt(i);
            text.append(' ').append(id).append(x.isTravelling(id) ? "~" : "@");
            text.append(x.isTravelling(id) ? x.arrivalOf(id) : x.placeOf(id));
        }
        return text.toString();
    }

    /** All answers that tell the present state. */
    static String answers(RiverParcelService x) {
        StringBuilder text = new StringBuilder(sizes(x));
        for (int i = 0; i < x.linkCount(); i++) {
            text.append('\n').append(x.linkFrom(i)).append('-').append(x.linkTo(i)).append(' ');
            text.append(x.travelTime(i)).append(x.isBlocked(i) ? 'x' : 'o').append(x.loadOf(i));
        }
        for (int i = 0; i < x.parcelCount(); i++) {
            int id = x.idAt(i);
            text.append('\n').append(x.weightOf(id)).append('*').append(x.stampsOf(id));
            text.append(Checks.outcomeOf(() -> x.linkOf(id))).append('>').append(x.destinationOf(id));
        }
        text.append('\n').append(Checks.outcomeOf(x::errorPosition));
        text.append(' ').append(Checks.outcomeOf(x::failedCommand));
        return text.append('\n').append(Scenes.line(x)).toString();
    }

    private static RiverParcelService after(Supplier<RiverParcelService> scene, Bounds.Question act) {
        RiverParcelService x = scene.get();
        Checks.outcomeOf(() -> act.of(x, 0));
        return x;
    }

    /** All that can be asked of a service, also what undo, restore and run would bring to light. */
    static String traces(Supplier<RiverParcelService> scene, Bounds.Question act) {
        StringBuilder text = new StringBuilder(answers(after(scene, act)));
        RiverParcelService undone = after(scene, act);
        for (int i = 0; i < 9; i++) {
            text.append("\nundo ").append(Checks.outcomeOf(undone::undo)).append(": ").append(sizes(undone));
        }
        RiverParcelService restored = after(scene, act);
        text.append("\nrestore ").append(Checks.outcomeOf(restored::restore));
        text.append(": ").append(answers(restored));
        RiverParcelService executed = after(scene, act);
        text.append("\nrun ").append(Checks.outcomeOf(executed::run)).append(": ").append(sizes(executed));
        text.append(' ').append(Checks.outcomeOf(executed::errorPosition));
        return text.toString();
    }

    private void leaves(Supplier<RiverParcelService> scene, String what, Class<? extends RuntimeException> want,
            Bounds.Question act) {
        refused(what, want, () -> act.of(scene.get(), 0));
        due("the state behind " + what, traces(scene, (x, none) -> 0), traces(scene, act));
    }

    private void busyLeaves(String what, Class<? extends RuntimeException> want, Bounds.Question act) {
        leaves(Refusals::busy, what, want, act);
    }

    private void refusedChanges() {
        busyLeaves("addLink to no place", INDEX, (x, none) -> x.addLink(0, 4, 1, 0));
        busyLeaves("addLink from no place", INDEX, (x, none) -> x.addLink(-1, 0, 1, 0));
        busyLeaves("addLink to the same place", ARGUMENT, (x, none) -> x.addLink(1, 1, 1, 0));
        busyLeaves("addLink of 10 hours", ARGUMENT, (x, none) -> x.addLink(0, 1, 10, 0));
        busyLeaves("addLink of phase 6", ARGUMENT, (x, none) -> x.addLink(0, 1, 1, 6));
        busyLeaves("block of no link", INDEX, (x, none) -> x.block(4));
        busyLeaves("block of a blocked link", STATE, (x, none) -> x.block(3));
        busyLeaves("open of no link", INDEX, (x, none) -> x.open(-1));
        busyLeaves("open of a link that is not blocked", STATE, (x, none) -> x.open(0));
        busyLeaves("post from no place", INDEX, (x, none) -> x.post(4, 0, 1, 1));
        busyLeaves("post to no place", INDEX, (x, none) -> x.post(0, -1, 1, 1));
        busyLeaves("post to the same place", ARGUMENT, (x, none) -> x.post(2, 2, 1, 1));
        busyLeaves("post of weight 0", ARGUMENT, (x, none) -> x.post(0, 1, 0, 1));
        busyLeaves("post with 21 stamps", ARGUMENT, (x, none) -> x.post(0, 1, 1, 21));
        busyLeaves("addStamps to no parcel", ELEMENT, (x, none) -> x.addStamps(3, 1));
        busyLeaves("addStamps of 0", ARGUMENT, (x, none) -> x.addStamps(1, 0));
        busyLeaves("addStamps up to 21", STATE, (x, none) -> x.addStamps(1, 20));
        busyLeaves("takeBack of no parcel", ELEMENT, (x, none) -> x.takeBack(3));
        busyLeaves("takeBack of a travelling parcel", STATE, (x, none) -> x.takeBack(0));
        busyLeaves("pass of 0 hours", ARGUMENT, (x, none) -> x.pass(0));
        busyLeaves("pass of 121 hours", ARGUMENT, (x, none) -> x.pass(121));
    }

    private void refusedSends() {
        busyLeaves("send of no parcel", ELEMENT, (x, none) -> x.send(3, 0));
        busyLeaves("send over no link", INDEX, (x, none) -> x.send(1, 4));
        busyLeaves("send of a travelling parcel", STATE, (x, none) -> x.send(0, 0));
        busyLeaves("send from another place", STATE, (x, none) -> x.send(1, 2));
        busyLeaves("send without stamps", STATE, (x, none) -> x.send(2, 0));
        busyLeaves("send over a closed link", STATE, (x, none) -> x.send(1, 1));
        busyLeaves("send over a blocked link", STATE, (x, none) -> x.send(1, 3));
        busyLeaves("send over a full link", STATE, (x, none) -> x.send(1, 0));
        busyLeaves("canSend of no parcel", ELEMENT, (x, none) -> x.canSend(3, 0));
        busyLeaves("canSend over no link", INDEX, (x, none) -> x.canSend(1, 4));
    }

    private void refusedNetworkQuestions() {
        busyLeaves("linkFrom of no link", INDEX, (x, none) -> x.linkFrom(4));
        busyLeaves("linkTo of no link", INDEX, (x, none) -> x.linkTo(4));
        busyLeaves("travelTime of no link", INDEX, (x, none) -> x.travelTime(4));
        busyLeaves("isBlocked of no link", INDEX, (x, none) -> x.isBlocked(4));
        busyLeaves("isOpenAt of no link", INDEX, (x, none) -> x.isOpenAt(4, 0));
        busyLeaves("isOpenAt at hour 10000", ARGUMENT, (x, none) -> x.isOpenAt(0, 10000));
        busyLeaves("loadOf of no link", INDEX, (x, none) -> x.loadOf(4));
        busyLeaves("degree of no place", INDEX, (x, none) -> x.degree(4));
        busyLeaves("waitingIn no place", INDEX, (x, none) -> x.waitingIn(4));
        busyLeaves("earliestArrival in no place", INDEX, (x, none) -> x.earliestArrival(0, 4, 0));
        busyLeaves("earliestArrival at hour -1", ARGUMENT, (x, none) -> x.earliestArrival(0, 1, -1));
        busyLeaves("earliestArrival without a way", ELEMENT, (x, none) -> x.earliestArrival(0, 3, 0));
        busyLeaves("earliestArrivalByHours in no place", INDEX, (x, none) -> x.earliestArrivalByHours(0, 4, 0));
        busyLeaves("earliestArrivalByHours at hour -1", ARGUMENT, (x, none) -> x.earliestArrivalByHours(0, 1, -1));
        busyLeaves("earliestArrivalByHours without a way", ELEMENT, (x, none) -> x.earliestArrivalByHours(0, 3, 0));
        busyLeaves("fewestLinks to no place", INDEX, (x, none) -> x.fewestLinks(0, 4));
        busyLeaves("fewestLinks without a way", ELEMENT, (x, none) -> x.fewestLinks(0, 3));
        busyLeaves("reachable from no place", INDEX, (x, none) -> x.reachable(4));
        busyLeaves("formatLink of no link", INDEX, (x, none) -> x.formatLink(4));
        busyLeaves("lineChar behind the line", INDEX, (x, none) -> x.lineChar(15));
    }

    private void refusedParcelQuestions() {
        busyLeaves("idAt behind the last", INDEX, (x, none) -> x.idAt(3));
        busyLeaves("isTravelling of no parcel", ELEMENT, (x, none) -> x.isTravelling(3));
        busyLeaves("placeOf of a travelling parcel", ELEMENT, (x, none) -> x.placeOf(0));
        busyLeaves("linkOf of a waiting parcel", ELEMENT, (x, none) -> x.linkOf(1));
        busyLeaves("arrivalOf of a waiting parcel", ELEMENT, (x, none) -> x.arrivalOf(1));
        busyLeaves("destinationOf of no parcel", ELEMENT, (x, none) -> x.destinationOf(3));
        busyLeaves("weightOf of no parcel", ELEMENT, (x, none) -> x.weightOf(3));
        busyLeaves("stampsOf of no parcel", ELEMENT, (x, none) -> x.stampsOf(3));
        busyLeaves("forecast of no parcel", ELEMENT, (x, none) -> x.forecast(3));
        busyLeaves("nextLink of a travelling parcel", ELEMENT, (x, none) -> x.nextLink(0));
        busyLeaves("stampsMissing of no parcel", ELEMENT, (x, none) -> x.stampsMissing(3));
        busyLeaves("parcelByForecast behind the last", ELEMENT, (x, none) -> x.parcelByForecast(3));
        busyLeaves("arrivalsWithin 121 hours", ARGUMENT, (x, none) -> x.arrivalsWithin(121));
        busyLeaves("deliveredIf 61 hours", ARGUMENT, (x, none) -> x.deliveredIf(61));
        busyLeaves("formatParcel of no parcel", ELEMENT, (x, none) -> x.formatParcel(3));
        busyLeaves("append of a sign below the range", ARGUMENT, (x, none) -> x.append((char) 31));
        busyLeaves("append of a sign above the range", ARGUMENT, (x, none) -> x.append((char) 127));
    }

    private void refusedWhenFull() {
        leaves(Refusals::full, "a tenth place", STATE, (x, none) -> x.addPlace());
        leaves(Refusals::full, "a 21st link", STATE, (x, none) -> x.addLink(8, 0, 9, 0));
        leaves(Refusals::full, "a 13th parcel", STATE, (x, none) -> x.post(8, 0, 9, 0));
        leaves(Refusals::full, "a 61st character", STATE, (x, none) -> x.append('x'));
    }

    private void refusedWhenEmpty() {
        Supplier<RiverParcelService> empty = RiverParcelService::new;
        leaves(empty, "busiestLink without links", ELEMENT, (x, none) -> x.busiestLink());
        leaves(empty, "idAt without parcels", INDEX, (x, none) -> x.idAt(0));
        leaves(empty, "parcelByForecast without parcels", ELEMENT, (x, none) -> x.parcelByForecast(0));
        leaves(empty, "meanStamps without parcels", ARITHMETIC, (x, none) -> x.meanStamps());
        leaves(empty, "blockedShare without links", ARITHMETIC, (x, none) -> x.blockedShare());
        leaves(empty, "lineChar of an empty line", INDEX, (x, none) -> x.lineChar(0));
        leaves(empty, "errorPosition of no program", ELEMENT, (x, none) -> x.errorPosition());
        leaves(empty, "failedCommand of no program", ELEMENT, (x, none) -> x.failedCommand());
        leaves(empty, "undo of no change", STATE, (x, none) -> x.undo());
        leaves(empty, "restore without a copy", STATE, (x, none) -> x.restore());
    }

    /** A refused run empties the buffer and stores one number; everything else stays. */
    private void refusedRuns() {
        // What is typed here stands behind the "hours 7" of the scene.
        refused("a malformed program", ARGUMENT, () -> Scenes.run(busy(), "p"));
        refused("a failed program", STATE, () -> Scenes.run(busy(), ";hours;hours;block 9"));
        String emptied = traces(() -> busyTyping(""), (x, none) -> 0);
        due("a malformed program", emptied.replace("\n1 1\n", "\n7 1\n"),
                traces(Refusals::busy, (x, none) -> Scenes.run(x, "p")));
        due("a failed program", emptied.replace("\n1 1\n", "\n1 3\n"),
                traces(Refusals::busy, (x, none) -> Scenes.run(x, ";hours;hours;block 9")));
    }

    private void firstOfChanges() {
        RiverParcelService x = full();
        refused("addLink, place and hours", INDEX, () -> busy().addLink(4, 0, 0, 0));
        refused("addLink, place and the same place", INDEX, () -> busy().addLink(4, 4, 1, 0));
        refused("addLink, place and 20 links", INDEX, () -> x.addLink(0, 9, 1, 0));
        refused("addLink, hours and 20 links", ARGUMENT, () -> x.addLink(0, 1, 0, 0));
        refused("addLink, the same place and 20 links", ARGUMENT, () -> x.addLink(8, 8, 1, 0));
        refused("post, place and weight", INDEX, () -> busy().post(0, 4, 0, 0));
        refused("post, place and stamps", INDEX, () -> busy().post(4, 0, 1, 21));
        refused("post, place and the same place", INDEX, () -> busy().post(-1, -1, 1, 1));
        refused("post, place and 12 parcels", INDEX, () -> x.post(9, 0, 1, 1));
        refused("post, stamps and 12 parcels", ARGUMENT, () -> x.post(0, 1, 1, -1));
        refused("post, the same place and 12 parcels", ARGUMENT, () -> x.post(0, 0, 1, 1));
        refused("send, parcel and link", ELEMENT, () -> busy().send(3, 4));
        refused("send, parcel and closed", ELEMENT, () -> busy().send(3, 1));
        refused("send, link and travelling", INDEX, () -> busy().send(0, 4));
        refused("send, link and no stamps", INDEX, () -> busy().send(2, -1));
        refused("addStamps, parcel and number", ELEMENT, () -> busy().addStamps(3, 0));
        refused("addStamps, number and 21 stamps", ARGUMENT, () -> x.addStamps(0, 21));
    }

    private void firstOfQuestions() {
        refused("isOpenAt, link and hour", INDEX, () -> busy().isOpenAt(4, -1));
        refused("earliestArrival, place and hour", INDEX, () -> busy().earliestArrival(0, 4, 10000));
        refused("earliestArrival, place and no way", INDEX, () -> busy().earliestArrival(3, 4, 0));
        refused("earliestArrival, hour and no way", ARGUMENT, () -> busy().earliestArrival(0, 3, -1));
        refused("earliestArrivalByHours, place and hour", INDEX, () -> busy().earliestArrivalByHours(4, 0, -1));
        refused("earliestArrivalByHours, place and no way", INDEX, () -> busy().earliestArrivalByHours(3, 4, 0));
        refused("earliestArrivalByHours, hour and no way", ARGUMENT,
                () -> busy().earliestArrivalByHours(0, 3, 10000));
        refused("fewestLinks, place and no way", INDEX, () -> busy().fewestLinks(3, 4));
        refused("canSend, parcel and link", ELEMENT, () -> busy().canSend(3, 4));
    }

    private void firstOfPrograms() {
        refused("append, range and full", ARGUMENT, () -> full().append((char) 127));
        RiverParcelService x = Scenes.places(1);
        refused("run, malformed behind a command that would fail", ARGUMENT, () -> Scenes.run(x, "block 9;x"));
        due("the error position", 8, x.errorPosition());
        refused("no command failed", ELEMENT, x::failedCommand);
    }
}
