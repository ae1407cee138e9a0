import java.util.function.Supplier;

/** Promises 1 to 11: a new object, and the methods that change it. */
final class ChangeBounds extends Bounds {
    private static final String NO_PLACE =
            "Throws `IndexOutOfBoundsException` if there is no such place, for either";
    private static final String NO_LINK = "Throws `IndexOutOfBoundsException` if there is no such link";
    private static final String NO_PARCEL =
            "Throws `NoSuchElementException` if no parcel in the service has this id";
    private static final String WRONG = "Throws `IllegalArgumentException` if both places are the same, or one of the"
            + " other arguments is out of range";

    ChangeBounds(Checks checks, Sentences sentences) {
        super(checks, sentences);
    }

    @Override
    void test() {
        promise(1);
        says("Creates a service without places, links and parcels, at hour 0.", this::newObject);
        promise(2);
        says("Throws `IllegalStateException` if there are 9 places", this::tenthPlace);
        promise(3);
        addLink();
        promise(4);
        block();
        promise(5);
        open();
        promise(6);
        post();
        promise(7);
        send();
        promise(8);
        addStamps();
        promise(9);
        takeBack();
        promise(10);
        says("Returns the number of parcels that are sent.", this::dispatched);
        promise(11);
        pass();
    }

    private void newObject() {
        RiverParcelService x = new RiverParcelService();
        due("everything is 0", "0 0 0 0 0 0 0 0 ArithmeticException ArithmeticException :", Refusals.sizes(x));
        outside(RiverParcelService::new, INDEX, (y, place) -> y.degree(place), -1, 0);
        outside(RiverParcelService::new, INDEX, (y, link) -> y.linkFrom(link), -1, 0);
        outside(RiverParcelService::new, INDEX, (y, position) -> y.idAt(position), -1, 0);
        x.addPlace();
        due("each object is its own", 0, new RiverParcelService().placeCount());
    }

    private void tenthPlace() {
        inside(() -> Scenes.places(8), STATE, (x, none) -> x.addPlace(), 0);
        outside(() -> Scenes.places(9), STATE, (x, none) -> x.addPlace(), 0);
        due("the last number", 8, Scenes.places(8).addPlace());
        due("the first number", 0, new RiverParcelService().addPlace());
    }

    private void addLink() {
        says("- `hours`: the travel time in hours, 1 to 9",
                () -> range(() -> Scenes.places(2), 1, 9, (x, hours) -> x.addLink(0, 1, hours, 0)));
        says("- `phase`: the phase, 0 to 5",
                () -> range(() -> Scenes.places(2), 0, 5, (x, phase) -> x.addLink(0, 1, 1, phase)));
        says(NO_PLACE, () -> {
            noSuchPlace((x, from) -> x.addLink(from, 0, 1, 0));
            noSuchPlace((x, to) -> x.addLink(0, to, 1, 0));
            noSuchPlace((x, both) -> x.addLink(both, both, 1, 0));
        });
        says(WRONG, () -> {
            outside(() -> Scenes.places(2), ARGUMENT, (x, place) -> x.addLink(place, place, 1, 0), 0, 1);
            inside(() -> Scenes.places(2), ARGUMENT, (x, place) -> x.addLink(place, 1 - place, 1, 0), 0, 1);
            outside(() -> Scenes.places(2), ARGUMENT, (x, hours) -> x.addLink(0, 1, hours, 0), 0, 10);
            outside(() -> Scenes.places(2), ARGUMENT, (x, phase) -> x.addLink(0, 1, 1, phase), -1, 6);
        });
        says("Throws `IllegalStateException` if there are 20 links", () -> {
            due("the last number", 19, Scenes.links(19).addLink(0, 1, 9, 5));
            outside(() -> Scenes.links(20), STATE, (x, none) -> x.addLink(0, 1, 9, 5), 0);
            due("the first number", 0, Scenes.places(2).addLink(0, 1, 9, 5));
        });
    }

    private void block() {
        says("Parcels that are travelling on it are not affected.", this::blockedOnTheWay);
        says("Returns the number of blocked links afterwards.", () -> {
            RiverParcelService x = Scenes.links(20);
            for (int i = 0; i < 20; i++) {
                due("blocked links", i + 1, x.block(19 - i));
            }
        });
        says(NO_LINK, () -> noSuchLink((x, link) -> x.block(link)));
        says("Throws `IllegalStateException` if it is blocked", () -> {
            Supplier<RiverParcelService> scene = () -> {
                RiverParcelService x = Scenes.links(3);
                x.block(1);
                return x;
            };
            outside(scene, STATE, (x, link) -> x.block(link), 1);
            inside(scene, STATE, (x, link) -> x.block(link), 0, 2);
            RiverParcelService y = scene.get();
            Checks.outcomeOf(() -> y.block(1));
            due("still blocked", true, y.isBlocked(1));
            due("opened once", 0, y.open(1));
            due("blocked again", 1, y.block(1));
        });
    }

    private void blockedOnTheWay() {
        RiverParcelService x = Scenes.river();
        x.post(0, 1, 9, 1);
        x.send(0, 0);
        x.block(0);
        due("it travels", 2, x.arrivalOf(0));
        due("on its link", 0, x.linkOf(0));
        due("with its weight", 9, x.loadOf(0));
        due("to the same forecast", 2, x.forecast(0));
        due("and arrives", 1, x.pass(2));
        due("the link stays blocked", true, x.isBlocked(0));
    }

    private void open() {
        says("Returns the number of blocked links afterwards.", () -> {
            RiverParcelService x = Scenes.links(20);
            for (int i = 0; i < 20; i++) {
                x.block(i);
            }
            for (int i = 0; i < 20; i++) {
                due("blocked links", 19 - i, x.open(19 - i));
            }
        });
        says(NO_LINK, () -> noSuchLink((x, link) -> x.open(link)));
        says("Throws `IllegalStateException` if it is not blocked", () -> {
            Supplier<RiverParcelService> scene = () -> {
                RiverParcelService x = Scenes.links(3);
                x.block(1);
                return x;
            };
            outside(scene, STATE, (x, link) -> x.open(link), 0, 2);
            inside(scene, STATE, (x, link) -> x.open(link), 1);
            RiverParcelService y = scene.get();
            y.open(1);
            refused("opened twice", STATE, () -> y.open(1));
            due("not blocked", false, y.isBlocked(1));
        });
    }

    private void post() {
        says("- `weight`: the weight, 1 to 9",
                () -> range(() -> Scenes.places(2), 1, 9, (x, weight) -> x.post(0, 1, weight, 0)));
        says("- `stamps`: the number of stamps, 0 to 20",
                () -> range(() -> Scenes.places(2), 0, 20, (x, stamps) -> x.post(0, 1, 1, stamps)));
        says(NO_PLACE, () -> {
            noSuchPlace((x, from) -> x.post(from, 0, 1, 0));
            noSuchPlace((x, to) -> x.post(0, to, 1, 0));
            noSuchPlace((x, both) -> x.post(both, both, 1, 0));
        });
        says(WRONG, () -> {
            outside(() -> Scenes.places(2), ARGUMENT, (x, place) -> x.post(place, place, 1, 0), 0, 1);
            inside(() -> Scenes.places(2), ARGUMENT, (x, place) -> x.post(place, 1 - place, 1, 0), 0, 1);
            outside(() -> Scenes.places(2), ARGUMENT, (x, weight) -> x.post(0, 1, weight, 0), 0, 10);
            outside(() -> Scenes.places(2), ARGUMENT, (x, stamps) -> x.post(0, 1, 1, stamps), -1, 21);
        });
        says("Throws `IllegalStateException` if 12 parcels are in the service", () -> {
            due("the last one", 11, Scenes.parcels(11).post(0, 1, 1, 0));
            outside(() -> Scenes.parcels(12), STATE, (x, none) -> x.post(0, 1, 1, 0), 0);
            due("the first one", 0, Scenes.parcels(0).post(0, 1, 1, 0));
        });
    }

    private void send() {
        says(NO_PARCEL, () -> noSuchParcel(Kind.WAITING, (x, id) -> x.send(id, 0)));
        says(NO_LINK, () -> noSuchLink((x, link) -> x.send(0, link)));
        says("Throws `IllegalStateException` if the parcel is travelling or waits in another place than that from which"
                + " the link leads, it has no stamps, the link is closed at the present hour, or the parcels on the"
                + " link would weigh more than 10 together", () -> {
                    sendTravelling();
                    sendWithoutStamps();
                    sendOverClosedLink();
                    sendOverFullLink();
                });
    }

    private void canSend(RiverParcelService x, String what, int id, int link) {
        due("canSend, " + what, true, x.canSend(id, link));
        x.send(id, link);
        due("undone, " + what, true, x.undo() >= 0);
    }

    private void cannotSend(RiverParcelService x, String what, int id, int link) {
        String before = Refusals.sizes(x);
        due("canSend, " + what, false, x.canSend(id, link));
        refused("send, " + what, STATE, () -> x.send(id, link));
        due("after the refusal, " + what, before, Refusals.sizes(x));
    }

    private void sendTravelling() {
        RiverParcelService x = Scenes.river();
        x.addLink(1, 0, 1, 5);
        x.post(0, 2, 1, 20);
        cannotSend(x, "from the place where the link ends", 0, 2);
        cannotSend(x, "from a place beside it", 0, 1);
        canSend(x, "from its place", 0, 0);
        x.send(0, 0);
        cannotSend(x, "travelling, its own link", 0, 0);
        cannotSend(x, "travelling, the link behind it", 0, 1);
        x.pass(1);
        cannotSend(x, "travelling in the last hour", 0, 1);
        x.pass(1);
        cannotSend(x, "arrived, the link that led there", 0, 0);
        canSend(x, "arrived, the link behind it", 0, 1);
    }

    private void sendWithoutStamps() {
        RiverParcelService x = Scenes.parcels(0);
        x.post(0, 1, 1, 0);
        x.post(0, 1, 1, 1);
        cannotSend(x, "no stamps", 0, 0);
        canSend(x, "1 stamp", 1, 0);
        x.addStamps(0, 1);
        canSend(x, "1 stamp is added", 0, 0);
    }

    private void sendOverClosedLink() {
        RiverParcelService x = Scenes.places(2);
        x.addLink(0, 1, 1, 3);
        x.post(0, 1, 1, 1);
        for (int hour = 0; hour < 13; hour++) {
            if (hour % 6 == 3) {
                cannotSend(x, "closed at hour " + hour, 0, 0);
            } else {
                canSend(x, "open at hour " + hour, 0, 0);
            }
            x.pass(1);
        }
        x.block(0);
        cannotSend(x, "blocked", 0, 0);
        x.open(0);
        canSend(x, "no longer blocked", 0, 0);
    }

    private void sendOverFullLink() {
        for (int first = 1; first <= 9; first++) {
            RiverParcelService x = Scenes.places(2);
            x.addLink(0, 1, 9, 5);
            x.post(0, 1, first, 1);
            x.post(0, 1, 10 - first, 1);
            x.post(0, 1, Math.min(9, 11 - first), 1);
            canSend(x, "alone", 2, 0);
            x.send(0, 0);
            canSend(x, "10 together", 1, 0);
            if (first > 1) {
                cannotSend(x, "11 together", 2, 0);
            }
            x.send(1, 0);
            due("10 on the link", 10, x.loadOf(0));
        }
    }

    private void addStamps() {
        says("- `stamps`: the number of stamps, 1 to 20", () -> {
            Supplier<RiverParcelService> scene = () -> {
                RiverParcelService x = Scenes.places(2);
                x.post(0, 1, 1, 0);
                return x;
            };
            range(scene, 1, 20, (x, stamps) -> x.addStamps(0, stamps));
            due("1 stamp", 1, scene.get().addStamps(0, 1));
            due("20 stamps", 20, scene.get().addStamps(0, 20));
        });
        says(NO_PARCEL, () -> noSuchParcel(Kind.ANY, (x, id) -> x.addStamps(id, 1)));
        says("Throws `IllegalArgumentException` if the number is out of range",
                () -> outside(() -> Scenes.parcels(1), ARGUMENT, (x, stamps) -> x.addStamps(0, stamps),
                        0, 21, -1, LEAST, MOST));
        says("Returns the stamps of the parcel afterwards.", () -> {
            RiverParcelService x = Scenes.parcels(2);
            due("1 and 18", 19, x.addStamps(1, 18));
            due("19 and 1", 20, x.addStamps(1, 1));
            due("they are there", 20, x.stampsOf(1));
            due("the other parcel has its own", 1, x.stampsOf(0));
        });
        says("Throws `IllegalStateException` if the parcel would have more than 20 stamps", this::tooManyStamps);
    }

    private void tooManyStamps() {
        for (int stamps = 0; stamps <= 20; stamps++) {
            RiverParcelService x = Scenes.places(2);
            x.post(0, 1, 1, stamps);
            int more = 21 - stamps;
            if (more <= 20) {
                refused("21 stamps", STATE, () -> x.addStamps(0, more));
                due("none were added", stamps, x.stampsOf(0));
            }
            if (more > 1) {
                due("20 stamps", 20, x.addStamps(0, more - 1));
            }
            refused("full", STATE, () -> x.addStamps(0, 1));
        }
        RiverParcelService y = Scenes.places(2);
        y.addLink(0, 1, 2, 5);
        y.post(0, 1, 1, 20);
        y.send(0, 0);
        refused("21 stamps of a travelling parcel", STATE, () -> y.addStamps(0, 2));
        due("20 stamps of a travelling parcel", 20, y.addStamps(0, 1));
    }

    private void takeBack() {
        says(NO_PARCEL, () -> {
            noSuchParcel(Kind.WAITING, (x, id) -> x.takeBack(id));
            RiverParcelService x = Scenes.parcels(1);
            x.takeBack(0);
            refused("twice", ELEMENT, () -> x.takeBack(0));
            due("once", 1, x.takenBackTotal());
        });
        says("Returns its stamps.", () -> {
            for (int stamps = 0; stamps <= 20; stamps++) {
                RiverParcelService x = Scenes.places(2);
                x.post(0, 1, 1, stamps);
                due("stamps", stamps, x.takeBack(0));
            }
        });
        says("Throws `IllegalStateException` if it is travelling", () -> {
            RiverParcelService x = Scenes.river();
            x.post(0, 2, 1, 5);
            x.send(0, 0);
            refused("in the first hour", STATE, () -> x.takeBack(0));
            x.pass(1);
            refused("in the last hour", STATE, () -> x.takeBack(0));
            due("it is there", 1, x.parcelCount());
            due("none is taken back", 0, x.takenBackTotal());
            x.pass(1);
            due("arrived", 4, x.takeBack(0));
            due("none is left", 0, x.parcelCount());
        });
    }

    private void dispatched() {
        due("without anything", 0, new RiverParcelService().dispatch());
        due("without parcels", 0, Scenes.parcels(0).dispatch());
        due("the only one", 1, Scenes.parcels(1).dispatch());
        due("as many as the link carries", 10, Scenes.parcels(12).dispatch());
        RiverParcelService x = Scenes.links(2);
        due("over one link of two", 1, x.dispatch());
        due("the lower one", 0, x.linkOf(0));
        RiverParcelService y = Scenes.places(9);
        for (int i = 0; i < 12; i++) {
            y.addLink(i % 9, (i + 1) % 9, 9, 5);
            y.post(i % 9, (i + 1) % 9, 5, 1);
        }
        due("all twelve", 12, y.dispatch());
    }

    private void pass() {
        says("Lets hours pass, one after the other.", () -> {
            RiverParcelService x = Scenes.river();
            x.post(0, 1, 1, 1);
            x.post(0, 1, 1, 1);
            x.send(0, 0);
            due("one hour", 0, x.pass(1));
            x.send(1, 0);
            due("two hours with an arrival in each", 2, x.pass(2));
            due("the hour", 3, x.hour());
        });
        says("- `hours`: the number of hours, 1 to 120",
                () -> {
                    range(RiverParcelService::new, 1, 120, (x, hours) -> x.pass(hours));
                    for (int hours : new int[] {1, 2, 119, 120}) {
                        RiverParcelService x = new RiverParcelService();
                        x.pass(hours);
                        due("the hour", hours, x.hour());
                    }
                });
        says("Returns the number of parcels that are delivered.", () -> {
            RiverParcelService x = Scenes.parcels(12);
            due("none", 0, x.pass(6));
            x.dispatch();
            due("before", 0, x.pass(1));
            due("all at once", 10, x.pass(120));
            due("those who wait stay", 0, x.pass(120));
        });
        says("Throws `IllegalArgumentException` if the number of hours is out of range", () -> {
            Supplier<RiverParcelService> scene = () -> Scenes.parcels(1);
            outside(scene, ARGUMENT, (x, hours) -> x.pass(hours), 0, -1, 121, LEAST, MOST);
        });
    }
}
