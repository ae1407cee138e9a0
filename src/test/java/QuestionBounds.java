import java.util.function.Supplier;

/** Promises 12 to 53: the questions, and the line. */
final class QuestionBounds extends Bounds {
    private static final String NO_PLACE = "Throws `IndexOutOfBoundsException` if there is no such place";
    private static final String NO_LINK = "Throws `IndexOutOfBoundsException` if there is no such link";
    private static final String NO_PARCEL =
            "Throws `NoSuchElementException` if no parcel in the service has this id";
    private static final String NO_HOUR = "Throws `IllegalArgumentException` if the hour is out of range";
    private static final String NO_HOURS =
            "Throws `IllegalArgumentException` if the number of hours is out of range";
    private static final String NO_WAY = "Throws `NoSuchElementException` if the other place cannot be reached";
    private static final String ASKED_HOUR = "- `hour`: the hour, 0 to 9999";

    QuestionBounds(Checks checks, Sentences sentences) {
        super(checks, sentences);
    }

    @Override
    void test() {
        counters();
        links();
        loads();
        parcels();
        ways();
        forecasts();
        looksAhead();
        totals();
        lines();
    }

    private void counters() {
        promise(12);
        says("Returns the hour counter.", () -> {
            RiverParcelService x = new RiverParcelService();
            due("at first", 0, x.hour());
            x.pass(120);
            due("afterwards", 120, x.hour());
            x.undo();
            due("undone", 0, x.hour());
        });
        promise(13);
        says("Returns the number of places.", () -> {
            for (int i = 0; i <= 9; i++) {
                due("places", i, Scenes.places(i).placeCount());
            }
        });
        promise(14);
        says("Returns the number of links.", () -> {
            for (int i = 0; i <= 20; i++) {
                due("links", i, Scenes.links(i).linkCount());
            }
        });
        promise(23);
        says("Returns the number of parcels in the service.", () -> {
            for (int i = 0; i <= 12; i++) {
                due("parcels", i, Scenes.parcels(i).parcelCount());
            }
            due("travelling ones, too", 2, Scenes.mixed().parcelCount());
        });
    }

    private void links() {
        promise(15);
        says(NO_LINK, () -> noSuchLink((x, link) -> x.linkFrom(link)));
        promise(16);
        says(NO_LINK, () -> noSuchLink((x, link) -> x.linkTo(link)));
        promise(17);
        says(NO_LINK, () -> noSuchLink((x, link) -> x.travelTime(link)));
        says("Returns the travel time of a link.", () -> {
            for (int hours = 1; hours <= 9; hours++) {
                RiverParcelService x = Scenes.links(2);
                x.addLink(1, 0, hours, 5);
                due("hours", hours, x.travelTime(2));
                due("place from", 1, x.linkFrom(2));
                due("place to", 0, x.linkTo(2));
            }
        });
        promise(18);
        says(NO_LINK, () -> noSuchLink((x, link) -> x.isBlocked(link)));
        promise(19);
        says(ASKED_HOUR, () -> {
            range(() -> Scenes.links(1), 0, 9999, (x, hour) -> x.isOpenAt(0, hour));
            for (int phase = 0; phase < 6; phase++) {
                RiverParcelService x = Scenes.places(2);
                x.addLink(0, 1, 1, phase);
                due("hour 0, phase " + phase, phase != 0, x.isOpenAt(0, 0));
                due("hour 9999, phase " + phase, phase != 3, x.isOpenAt(0, 9999));
            }
        });
        says(NO_LINK, () -> noSuchLink((x, link) -> x.isOpenAt(link, 0)));
        says(NO_HOUR, () -> {
            outside(() -> Scenes.links(1), ARGUMENT, (x, hour) -> x.isOpenAt(0, hour), -1, 10000, LEAST, MOST);
            outside(this::blockedLink, ARGUMENT, (x, hour) -> x.isOpenAt(0, hour), -1, 10000);
        });
    }

    private RiverParcelService blockedLink() {
        RiverParcelService x = Scenes.links(1);
        x.block(0);
        return x;
    }

    private void loads() {
        promise(20);
        says(NO_LINK, () -> noSuchLink((x, link) -> x.loadOf(link)));
        says("Returns the weight of the parcels that are travelling on a link.", () -> {
            RiverParcelService x = Scenes.parcels(12);
            for (int i = 0; i < 10; i++) {
                due("so far", i, x.loadOf(0));
                x.send(i, 0);
            }
            due("full", 10, x.loadOf(0));
            x.pass(2);
            due("empty again", 0, x.loadOf(0));
        });
        promise(21);
        says("Of several such links it is the one with the lowest number.", () -> {
            due("all empty", 0, Scenes.links(20).busiestLink());
            RiverParcelService x = Scenes.links(20);
            x.post(0, 1, 1, 1);
            x.send(1, 19);
            due("the last link", 19, x.busiestLink());
            x.send(0, 18);
            due("the lower one of two", 18, x.busiestLink());
            x.post(0, 1, 1, 1);
            x.send(2, 19);
            due("the heavier one of two", 19, x.busiestLink());
        });
        says("Throws `NoSuchElementException` if there are no links", () -> {
            outside(() -> Scenes.links(0), ELEMENT, (x, none) -> x.busiestLink(), 0);
            outside(RiverParcelService::new, ELEMENT, (x, none) -> x.busiestLink(), 0);
            due("one link", 0, Scenes.links(1).busiestLink());
        });
        promise(22);
        says(NO_PLACE, () -> noSuchPlace((x, place) -> x.degree(place)));
        says("Returns the number of links that lead from a place or to it.", () -> {
            due("none", 0, Scenes.places(1).degree(0));
            due("all 20 from it", 20, Scenes.links(20).degree(0));
            due("all 20 to it", 20, Scenes.links(20).degree(1));
            RiverParcelService x = longRow();
            for (int i = 0; i < 9; i++) {
                due("in a row, place " + i, i == 0 || i == 8 ? 1 : 2, x.degree(i));
            }
        });
        promise(32);
        says(NO_PLACE, () -> noSuchPlace((x, place) -> x.waitingIn(place)));
        says("Returns the number of parcels that are waiting in a place.", () -> {
            due("none", 0, Scenes.parcels(0).waitingIn(0));
            due("all 12", 12, Scenes.parcels(12).waitingIn(0));
            due("none in the other place", 0, Scenes.parcels(12).waitingIn(1));
            due("one waits, one travels", 1, Scenes.mixed().waitingIn(0));
            due("one travels there", 0, Scenes.mixed().waitingIn(1));
            RiverParcelService x = Scenes.places(9);
            for (int i = 0; i < 9; i++) {
                x.post(i, (i + 1) % 9, 1, 1);
            }
            for (int i = 0; i < 9; i++) {
                due("one in each, place " + i, 1, x.waitingIn(i));
            }
        });
    }

    private void parcels() {
        promise(24);
        says("- `position`: the position, starting at 0", () -> {
            due("the first one", 0, Scenes.parcels(12).idAt(0));
            due("the last one", 11, Scenes.parcels(12).idAt(11));
            due("the first one of two", 2, Scenes.mixed().idAt(0));
            due("the last one of two", 3, Scenes.mixed().idAt(1));
        });
        says("Throws `IndexOutOfBoundsException` if the position is negative or not less than the number of parcels",
                () -> {
                    outside(() -> Scenes.parcels(0), INDEX, (x, at) -> x.idAt(at), -1, 0, 1, 11);
                    outside(Scenes::mixed, INDEX, (x, at) -> x.idAt(at), -1, 2, 3, 4, LEAST, MOST);
                    outside(() -> Scenes.parcels(12), INDEX, (x, at) -> x.idAt(at), -1, 12, LEAST, MOST);
                    inside(() -> Scenes.parcels(12), INDEX, (x, at) -> x.idAt(at), 0, 1, 10, 11);
                });
        promise(25);
        says(NO_PARCEL, () -> noSuchParcel(Kind.ANY, (x, id) -> x.isTravelling(id)));
        says("Returns true if it is, false if it is waiting.", () -> {
            due("it waits", false, Scenes.mixed().isTravelling(2));
            due("it travels", true, Scenes.mixed().isTravelling(3));
        });
        promise(26);
        says(NO_PARCEL + ", or it is travelling", () -> {
            noSuchParcel(Kind.WAITING, (x, id) -> x.placeOf(id));
            outside(Scenes::mixed, ELEMENT, (x, id) -> x.placeOf(id), 3);
        });
        promise(27);
        says(NO_PARCEL + ", or it is waiting", () -> {
            noSuchParcel(Kind.TRAVELLING, (x, id) -> x.linkOf(id));
            outside(Scenes::mixed, ELEMENT, (x, id) -> x.linkOf(id), 2);
            arrivedParcel((x, id) -> x.linkOf(id), 0);
        });
        promise(28);
        says(NO_PARCEL + ", or it is waiting", () -> {
            noSuchParcel(Kind.TRAVELLING, (x, id) -> x.arrivalOf(id));
            outside(Scenes::mixed, ELEMENT, (x, id) -> x.arrivalOf(id), 2);
            arrivedParcel((x, id) -> x.arrivalOf(id), 2);
        });
        promise(29);
        says(NO_PARCEL, () -> noSuchParcel(Kind.ANY, (x, id) -> x.destinationOf(id)));
        promise(30);
        says(NO_PARCEL, () -> noSuchParcel(Kind.ANY, (x, id) -> x.weightOf(id)));
        promise(31);
        says(NO_PARCEL, () -> noSuchParcel(Kind.ANY, (x, id) -> x.stampsOf(id)));
    }

    private void arrivedParcel(Question question, int onItsWay) {
        RiverParcelService x = Scenes.river();
        x.post(0, 2, 1, 1);
        x.send(0, 0);
        x.pass(1);
        due("in the last hour", onItsWay, question.of(x, 0));
        x.pass(1);
        refused("arrived on its way", ELEMENT, () -> question.of(x, 0));
    }

    private void ways() {
        promise(33);
        earliestArrivals((x, hour) -> x.earliestArrival(0, 1, hour), (x, to) -> x.earliestArrival(0, to, 0),
                (x, from) -> x.earliestArrival(from, 0, 0));
        promise(34);
        earliestArrivals((x, hour) -> x.earliestArrivalByHours(0, 1, hour),
                (x, to) -> x.earliestArrivalByHours(0, to, 0), (x, from) -> x.earliestArrivalByHours(from, 0, 0));
        promise(35);
        says("Returns the number of links, 0 if both are the same.", () -> {
            RiverParcelService x = longRow();
            for (int i = 0; i < 9; i++) {
                due("the same place", 0, x.fewestLinks(i, i));
                due("from the first place", i, x.fewestLinks(0, i));
            }
        });
        says(NO_PLACE + ", for either", () -> {
            noSuchPlace((x, from) -> x.fewestLinks(from, 0));
            noSuchPlace((x, to) -> x.fewestLinks(0, to));
        });
        says(NO_WAY, () -> noWay((x, to) -> x.fewestLinks(0, to)));
        promise(36);
        says("Returns the number, the place itself included.", () -> {
            due("no links", 1, Scenes.places(9).reachable(8));
            due("the only place", 1, Scenes.places(1).reachable(0));
            RiverParcelService x = longRow();
            for (int i = 0; i < 9; i++) {
                due("those behind it", 9 - i, x.reachable(i));
            }
            x.block(4);
            due("up to the blocked link", 5, x.reachable(0));
            due("from behind it", 4, x.reachable(5));
        });
        says(NO_PLACE, () -> noSuchPlace((x, from) -> x.reachable(from)));
    }

    /** Nine places in a row; each link is closed when one arrives there as early as one can from hour 0. */
    private static RiverParcelService longRow() {
        RiverParcelService x = Scenes.places(9);
        for (int i = 0; i < 8; i++) {
            x.addLink(i, i + 1, 9, i * 10 % 6);
        }
        return x;
    }

    private void earliestArrivals(Question atHour, Question to, Question from) {
        says(ASKED_HOUR, () -> {
            range(() -> Scenes.links(1), 0, 9999, atHour);
            due("from hour 0", 1, atHour.of(Scenes.links(1), 0));
            due("from hour 9999", 10000, atHour.of(Scenes.links(1), 9999));
            due("from hour 9995, closed", 9997, atHour.of(Scenes.links(1), 9995));
            for (int i = 0; i < 9; i++) {
                due("the longest way", i * 10, to.of(longRow(), i));
            }
        });
        says(NO_PLACE + ", for either", () -> {
            noSuchPlace(from);
            noSuchPlace(to);
        });
        says(NO_HOUR, () -> {
            outside(() -> Scenes.links(1), ARGUMENT, atHour, -1, 10000, LEAST, MOST);
            outside(() -> Scenes.links(0), ARGUMENT, atHour, -1, 10000);
        });
        says(NO_WAY, () -> noWay(to));
    }

    private void noWay(Question to) {
        outside(() -> Scenes.places(2), ELEMENT, to, 1);
        inside(() -> Scenes.places(2), ELEMENT, to, 0);
        outside(this::blockedLink, ELEMENT, to, 1);
        Supplier<RiverParcelService> against = () -> {
            RiverParcelService x = Scenes.places(3);
            x.addLink(1, 0, 1, 5);
            x.addLink(0, 2, 1, 5);
            return x;
        };
        outside(against, ELEMENT, to, 1);
        inside(against, ELEMENT, to, 0, 2);
        RiverParcelService y = longRow();
        y.block(7);
        refused("the last link is blocked", ELEMENT, () -> to.of(y, 8));
        due("the place before it", false, "NoSuchElementException".equals(Checks.outcomeOf(() -> to.of(y, 7))));
    }

    private void forecasts() {
        promise(37);
        says(NO_PARCEL + ", or its destination cannot be reached", () -> {
            noSuchParcel(Kind.ANY, (x, id) -> x.forecast(id));
            noDestination((x, id) -> x.forecast(id), 2);
        });
        promise(38);
        says(NO_PARCEL + ", it is travelling, or it has no next link", () -> {
            noSuchParcel(Kind.WAITING, (x, id) -> x.nextLink(id));
            outside(Scenes::mixed, ELEMENT, (x, id) -> x.nextLink(id), 3);
            outside(this::blockedLink, ELEMENT, (x, id) -> x.nextLink(id), 0);
            RiverParcelService x = Scenes.links(1);
            x.pass(4);
            due("open at hour 4", 0, x.nextLink(0));
            x.pass(1);
            refused("closed at hour 5", ELEMENT, () -> x.nextLink(0));
            x.pass(1);
            due("open at hour 6", 0, x.nextLink(0));
        });
        promise(39);
        says(NO_PARCEL, () -> noSuchParcel(Kind.ANY, (x, id) -> x.canSend(id, 0)));
        says(NO_LINK, () -> noSuchLink((x, link) -> x.canSend(0, link)));
        promise(40);
        says("Returns the number of stamps, 0 if it has enough.", this::missingStamps);
        says(NO_PARCEL + ", or its destination cannot be reached", () -> {
            noSuchParcel(Kind.ANY, (x, id) -> x.stampsMissing(id));
            noDestination((x, id) -> x.stampsMissing(id), 0);
        });
        promise(41);
        says("- `rank`: the rank, starting at 0", this::ranks);
        says("Throws `NoSuchElementException` if there is no such rank", () -> {
            outside(() -> Scenes.parcels(0), ELEMENT, (x, rank) -> x.parcelByForecast(rank), -1, 0, 1);
            outside(Scenes::mixed, ELEMENT, (x, rank) -> x.parcelByForecast(rank), -1, 2, 3, LEAST, MOST);
            outside(() -> Scenes.parcels(12), ELEMENT, (x, rank) -> x.parcelByForecast(rank), -1, 12, LEAST, MOST);
            inside(() -> Scenes.parcels(12), ELEMENT, (x, rank) -> x.parcelByForecast(rank), 0, 1, 10, 11);
        });
    }

    private void noDestination(Question question, Object onItsWay) {
        RiverParcelService x = Scenes.river();
        x.post(0, 1, 1, 1);
        x.post(0, 2, 1, 2);
        x.post(2, 0, 1, 1);
        refused("against the links", ELEMENT, () -> question.of(x, 2));
        x.send(0, 0);
        x.send(1, 0);
        x.block(0);
        due("on its way over a blocked link", onItsWay, question.of(x, 0));
        due("beyond it", true, question.of(x, 1) instanceof Integer);
        x.block(1);
        refused("before a blocked link", ELEMENT, () -> question.of(x, 1));
        due("on its last link", onItsWay, question.of(x, 0));
    }

    private void missingStamps() {
        for (int stamps = 0; stamps <= 9; stamps++) {
            RiverParcelService x = longRow();
            x.post(0, 8, 1, stamps);
            due("of 8 with " + stamps, Math.max(0, 8 - stamps), x.stampsMissing(0));
        }
        RiverParcelService x = longRow();
        x.post(0, 8, 1, 8);
        x.pass(1);
        x.send(0, 0);
        due("travelling with 7 of 7", 0, x.stampsMissing(0));
        x.pass(9);
        x.pass(1);
        due("arrived with 7 of 7", 0, x.stampsMissing(0));
        x.post(7, 8, 1, 0);
        due("one link, no stamps", 1, x.stampsMissing(1));
        x.addStamps(1, 20);
        due("one link, 20 stamps", 0, x.stampsMissing(1));
    }

    private void ranks() {
        RiverParcelService x = Scenes.river();
        x.addLink(2, 1, 1, 5);
        int[][] posted = {{1, 0}, {0, 2}, {0, 1}, {2, 0}, {2, 1}, {0, 1}};
        for (int[] fromTo : posted) {
            x.post(fromTo[0], fromTo[1], 1, 1);
        }
        int[] order = {4, 2, 5, 1, 0, 3};
        for (int rank = 0; rank < 6; rank++) {
            due("rank " + rank, order[rank], x.parcelByForecast(rank));
        }
        for (int rank = 0; rank < 12; rank++) {
            due("equal forecasts, rank " + rank, rank, Scenes.parcels(12).parcelByForecast(rank));
        }
        due("the only one", 0, Scenes.parcels(1).parcelByForecast(0));
    }

    private void looksAhead() {
        promise(42);
        says("- `hours`: the number of hours, 1 to 120", () -> {
            range(Scenes::mixed, 1, 120, (x, hours) -> x.arrivalsWithin(hours));
            RiverParcelService x = Scenes.mixed();
            due("it arrives in 3 hours, within 1", 0, x.arrivalsWithin(1));
            due("within 2", 0, x.arrivalsWithin(2));
            due("within 3", 1, x.arrivalsWithin(3));
            due("within 120", 1, x.arrivalsWithin(120));
            x.pass(2);
            due("in the next hour", 1, x.arrivalsWithin(1));
            x.pass(1);
            due("arrived", 0, x.arrivalsWithin(120));
        });
        says(NO_HOURS, () -> outside(Scenes::mixed, ARGUMENT, (x, hours) -> x.arrivalsWithin(hours),
                0, -1, 121, LEAST, MOST));
        promise(43);
        says("- `hours`: the number of hours, 1 to 60", () -> {
            range(() -> Scenes.parcels(3), 1, 60, (x, hours) -> x.deliveredIf(hours));
            RiverParcelService x = Scenes.parcels(12);
            due("no one in 1 hour", 0, x.deliveredIf(1));
            due("ten in 2 hours", 10, x.deliveredIf(2));
            due("ten in 3 hours", 10, x.deliveredIf(3));
            due("all in 4 hours", 12, x.deliveredIf(4));
            due("all in 60 hours", 12, x.deliveredIf(60));
            due("of none", 0, new RiverParcelService().deliveredIf(60));
            RiverParcelService y = slowParcel();
            due("not in 59 hours", 0, y.deliveredIf(59));
            due("in 60 hours", 1, y.deliveredIf(60));
            due("on a copy", "0 7 6 1 0 0 0 8 0.0 20.0 : 0@0", Refusals.sizes(y));
        });
        says(NO_HOURS, () -> outside(() -> Scenes.parcels(3), ARGUMENT, (x, hours) -> x.deliveredIf(hours),
                0, -1, 61, LEAST, MOST));
    }

    /** Six links, each of 9 hours behind a closed one. */
    private static RiverParcelService slowParcel() {
        RiverParcelService x = Scenes.places(7);
        for (int i = 0; i < 6; i++) {
            x.addLink(i, i + 1, 9, i * 10 % 6);
        }
        x.post(0, 6, 1, 20);
        return x;
    }

    private void totals() {
        promise(44);
        says("Returns the number of parcels that have been posted so far.", () -> {
            due("none", 0, Scenes.parcels(0).postedTotal());
            due("12", 12, Scenes.parcels(12).postedTotal());
            due("also those that have left, not the undone one", 4, Scenes.mixed().postedTotal());
        });
        promise(45);
        says("Returns the number of parcels that have been delivered so far.", () -> {
            due("none", 0, Scenes.parcels(12).deliveredTotal());
            due("one", 1, Scenes.mixed().deliveredTotal());
        });
        promise(46);
        says("Returns the number of parcels that have been taken out of the service so far.", () -> {
            due("none", 0, Scenes.parcels(12).takenBackTotal());
            due("one", 1, Scenes.mixed().takenBackTotal());
        });
        promise(47);
        says("Returns the number of stamps that have been used up so far.", () -> {
            due("none", 0, Scenes.parcels(12).usedStamps());
            due("two", 2, Scenes.mixed().usedStamps());
        });
        promise(48);
        says("Throws `ArithmeticException` if no parcels are in the service", () -> {
            outside(() -> Scenes.parcels(0), ARITHMETIC, (x, none) -> x.meanStamps(), 0);
            RiverParcelService x = Scenes.parcels(1);
            due("of one", 1.0, x.meanStamps());
            x.takeBack(0);
            refused("just empty", ARITHMETIC, x::meanStamps);
            x.post(0, 1, 1, 20);
            x.post(0, 1, 1, 20);
            x.post(0, 1, 1, 0);
            due("40 of three", 40.0 / 3.0, x.meanStamps());
        });
        promise(49);
        says("Throws `ArithmeticException` if there are no links", () -> {
            outside(() -> Scenes.links(0), ARITHMETIC, (x, none) -> x.blockedShare(), 0);
            due("none of one", 0.0f, Scenes.links(1).blockedShare());
            due("one of one", 1.0f, blockedLink().blockedShare());
            RiverParcelService x = Scenes.links(20);
            x.block(19);
            due("one of 20", 1.0f / 20.0f, x.blockedShare());
            x.undo();
            due("none of 20", 0.0f, x.blockedShare());
        });
        promise(50);
        says("Checks the service: earliestArrival and earliestArrivalByHours agree for all pairs of places at the"
                + " present hour, no link carries more than a weight of 10, and the parcels posted so far are those in"
                + " the service, delivered and taken back together.", this::consistent);
    }

    private void consistent() {
        due("without anything", true, new RiverParcelService().isConsistent());
        due("in all ways", true, Scenes.mixed().isConsistent());
        RiverParcelService x = longRow();
        for (int hour = 0; hour < 7; hour++) {
            due("hour " + hour, true, x.isConsistent());
            x.pass(1);
        }
        RiverParcelService y = Scenes.parcels(12);
        y.dispatch();
        due("a weight of 10", true, y.isConsistent());
        for (int i = 0; i < 84; i++) {
            y.pass(120);
        }
        due("behind hour 9999", true, y.isConsistent());
    }

    private void lines() {
        promise(51);
        says("An example is \"#12 5*3 ~7:20 >4\".", this::parcelExample);
        says(NO_PARCEL, () -> noSuchParcel(Kind.ANY, (x, id) -> x.formatParcel(id)));
        promise(52);
        says("An example is \"3(0-4) 5h/2 w7\".", this::linkExample);
        says(NO_LINK, () -> noSuchLink((x, link) -> x.formatLink(link)));
        promise(53);
        says("Returns a character of the line, which is empty at first.", () -> {
            outside(RiverParcelService::new, INDEX, (x, index) -> x.lineChar(index), -1, 0, 1, LEAST, MOST);
            outside(() -> Scenes.links(1), INDEX, (x, index) -> x.lineChar(index), -1, 0);
        });
        says("- `index`: the index, starting at 0", () -> {
            RiverParcelService x = Scenes.links(1);
            x.formatLink(0);
            due("the first one", '0', x.lineChar(0));
            due("the second one", '(', x.lineChar(1));
            due("the last one", '5', x.lineChar(10));
        });
        says("Throws `IndexOutOfBoundsException` if the index is negative or not less than the length of the line",
                this::lineBounds);
    }

    private void formatted(RiverParcelService x, String want, int length) {
        due("the length", want.length(), length);
        due("the line", want, Scenes.line(x));
    }

    private void parcelExample() {
        RiverParcelService x = Scenes.places(5);
        for (int i = 0; i < 8; i++) {
            x.addLink(0, 4, 8, 5);
        }
        for (int i = 0; i < 12; i++) {
            x.post(0, 4, 1, 0);
            x.takeBack(i);
        }
        x.post(0, 4, 5, 4);
        x.pass(12);
        formatted(x, "#12 5*4 @0 >4", x.formatParcel(12));
        x.send(12, 7);
        formatted(x, "#12 5*3 ~7:20 >4", x.formatParcel(12));
        x.post(4, 0, 9, 0);
        formatted(x, "#13 9*0 @4 >0", x.formatParcel(13));
        formatted(Scenes.mixed(), "", 0);
        RiverParcelService y = Scenes.parcels(0);
        y.post(0, 1, 1, 20);
        formatted(y, "#0 1*20 @0 >1", y.formatParcel(0));
        y.send(0, 0);
        formatted(y, "#0 1*19 ~0:2 >1", y.formatParcel(0));
    }

    private void linkExample() {
        RiverParcelService x = Scenes.places(5);
        for (int i = 0; i < 3; i++) {
            x.addLink(4, 3, 9, 0);
        }
        x.addLink(0, 4, 5, 2);
        formatted(x, "0(4-3) 9h/0", x.formatLink(0));
        x.post(0, 4, 7, 1);
        x.post(0, 4, 3, 1);
        x.post(0, 4, 1, 1);
        x.send(0, 3);
        formatted(x, "3(0-4) 5h/2 w7", x.formatLink(3));
        x.send(1, 3);
        formatted(x, "3(0-4) 5h/2 w10", x.formatLink(3));
        x.block(3);
        formatted(x, "3(0-4) 5h/2 x w10", x.formatLink(3));
        x.pass(5);
        formatted(x, "3(0-4) 5h/2 x", x.formatLink(3));
        x.open(3);
        x.pass(1);
        x.send(2, 3);
        formatted(x, "3(0-4) 5h/2 w1", x.formatLink(3));
        RiverParcelService y = Scenes.links(20);
        formatted(y, "19(0-1) 1h/5", y.formatLink(19));
    }

    private void lineBounds() {
        Supplier<RiverParcelService> scene = () -> {
            RiverParcelService x = Scenes.links(20);
            x.formatLink(19);
            x.formatLink(9);
            return x;
        };
        inside(scene, INDEX, (x, index) -> x.lineChar(index), 0, 1, 9, 10);
        outside(scene, INDEX, (x, index) -> x.lineChar(index), -1, 11, 12, LEAST, MOST);
        RiverParcelService x = scene.get();
        x.formatLink(10);
        due("a longer line", '5', x.lineChar(11));
        refused("behind it", INDEX, () -> x.lineChar(12));
    }
}
