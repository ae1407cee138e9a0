/** The terms Network, Parcels, Hours, Earliest arrivals and Dispatch. */
final class TermsBounds extends Bounds {
    TermsBounds(Checks checks, Sentences sentences) {
        super(checks, sentences);
    }

    @Override
    void test() {
        in("What it is");
        says("An object is used for at most 512 calls after it has been made; what later calls answer is free.",
                this::lastCall);
        in("Terms");
        says("An earliest arrival is an hour at which a place can be reached, and no earlier hour is one.",
                this::noEarlierHour);
        network();
        parcels();
        hours();
        arrivals();
        dispatches();
    }

    private void network() {
        says("At most 9 places exist, numbered from 0 in the order in which they were added.", this::ninePlaces);
        says("At most 20 links exist, numbered from 0 in the order in which they were added.", this::twentyLinks);
        says("A link leads from one place to another one, takes 1 to 9 hours, and has a phase from 0 to 5.",
                this::linkRanges);
        says("A link is closed at every hour whose remainder after division by 6 is its phase, and open at all other"
                + " hours; a blocked link is closed at all hours.", this::closedHours);
        says("Several links can lead from one place to the same other one.", this::severalLinks);
        says("The capacity of a link is a weight of 10: the parcels that are travelling on it at the same time weigh"
                + " at most 10 together.", this::capacity);
    }

    private void parcels() {
        says("At most 12 parcels are in the service.", this::twelveParcels);
        says("A new parcel gets the next free id: the first parcel has id 0, and each further parcel has the id of"
                + " the parcel posted before it plus 1.", this::nextId);
        says("Undo and restore also take back the next free id.", this::nextIdTakenBack);
        says("A parcel has a weight from 1 to 9, a destination, a number of stamps from 0 to 20, and it is either"
                + " waiting in a place or travelling on a link.", this::parcelRanges);
        says("When a parcel is sent over a link, 1 of its stamps is used up, and it is travelling until it arrives.",
                this::stampUsedUp);
        says("A parcel that is sent at an hour arrives at this hour plus the travel time of the link.",
                this::arrivalHour);
        says("A parcel that arrives in its destination is delivered and leaves the service.", this::delivered);
    }

    private void hours() {
        says("The hour counter starts at 0.", () -> due("hour", 0, new RiverParcelService().hour()));
        says("When an hour passes, the counter increases by 1, and then all parcels that arrive at this hour arrive,"
                + " in the order of their ids.", this::hourPasses);
    }

    private void arrivals() {
        says("Someone who is in a place at an hour can wait there for any number of hours, and can leave it over a"
                + " link at any hour at which the link is open; the capacities of links do not matter.",
                this::waiting);
        says("The earliest arrival in a place is the smallest hour at which one can be there; in the place where one"
                + " is, it is the hour at which one is there.", this::samePlace);
        says("The forecast of a parcel is the earliest arrival in its destination; a waiting parcel is in its place"
                + " at the present hour, and a travelling parcel is in the place where it arrives at the hour at"
                + " which it arrives.", this::forecasts);
        says("The next link of a waiting parcel is the first link of a way with which it could reach its destination"
                + " at the earliest arrival and over which it could leave at the present hour; of several such links"
                + " it is the one with the lowest number.", this::nextLinks);
    }

    private void dispatches() {
        says("A dispatch considers all waiting parcels in the order of their ids.", this::dispatchOrder);
        says("A parcel is sent over its next link, if it has one, at least 1 stamp, and the capacity of the link"
                + " allows it.", this::dispatchConditions);
    }

    private void lastCall() {
        RiverParcelService x = Scenes.parcels(12);
        for (int i = 15; i < 511; i++) {
            Checks.outcomeOf(i % 2 == 0 ? x::isConsistent : () -> x.pass(120));
        }
        due("the 512th call", 248 * 120, x.hour());
    }

    /** A single parcel that is dispatched each hour is delivered at its forecast, whenever it begins. */
    private void noEarlierHour() {
        for (int hour = 0; hour < 7; hour++) {
            RiverParcelService x = Scenes.river();
            x.addLink(0, 2, 5, 2);
            for (int i = 0; i < hour; i++) {
                x.pass(1);
            }
            x.post(0, 2, 1, 9);
            int forecast = x.forecast(0);
            for (int i = hour; i < forecast; i++) {
                due("delivered at hour " + i, 0, x.deliveredTotal());
                x.dispatch();
                x.pass(1);
            }
            due("delivered at hour " + forecast, 1, x.deliveredTotal());
        }
        int[] direct = {5, 6, 8, 8, 9, 10, 11};
        RiverParcelService x = Scenes.places(2);
        x.addLink(0, 1, 5, 2);
        for (int hour = 0; hour < 7; hour++) {
            due("from hour " + hour, direct[hour], x.earliestArrival(0, 1, hour));
        }
    }

    private void ninePlaces() {
        RiverParcelService x = new RiverParcelService();
        due("no place", 0, x.placeCount());
        for (int i = 0; i < 9; i++) {
            refused("before it is added", INDEX, () -> x.degree(x.placeCount()));
            due("its number", i, x.addPlace());
            due("its degree", 0, x.degree(i));
        }
        refused("a tenth one", STATE, x::addPlace);
        due("still 9", 9, x.placeCount());
        refused("no place 9", INDEX, () -> x.degree(9));
        x.undo();
        due("room for one again", 8, x.addPlace());
        refused("a tenth one again", STATE, x::addPlace);
        due("the last place can be used", 0, x.addLink(8, 0, 1, 0));
        due("and its parcels", 0, x.post(8, 0, 1, 1));
    }

    private void twentyLinks() {
        RiverParcelService x = Scenes.places(9);
        for (int i = 0; i < 20; i++) {
            due("its number", i, x.addLink(i % 9, (i + 1) % 9, 1 + i % 9, i % 6));
        }
        refused("a 21st one", STATE, () -> x.addLink(3, 7, 9, 5));
        due("still 20", 20, x.linkCount());
        for (int i = 0; i < 20; i++) {
            due("from, in the order", i % 9, x.linkFrom(i));
            due("to, in the order", (i + 1) % 9, x.linkTo(i));
            due("hours, in the order", 1 + i % 9, x.travelTime(i));
            due("phase, in the order", false, x.isOpenAt(i, i % 6));
        }
        x.undo();
        due("room for one again", 19, x.addLink(3, 7, 9, 5));
        refused("a 21st one again", STATE, () -> x.addLink(3, 7, 9, 5));
    }

    private void linkRanges() {
        for (int hours = 0; hours <= 10; hours++) {
            for (int phase = -1; phase <= 6; phase++) {
                RiverParcelService x = Scenes.places(2);
                boolean fine = hours >= 1 && hours <= 9 && phase >= 0 && phase <= 5;
                int h = hours;
                int p = phase;
                due(hours + " hours, phase " + phase, fine ? 0 : ARGUMENT.getSimpleName(),
                        Checks.outcomeOf(() -> x.addLink(1, 0, h, p)));
                due("links", fine ? 1 : 0, x.linkCount());
            }
        }
        refused("to the same place", ARGUMENT, () -> Scenes.places(2).addLink(1, 1, 1, 0));
    }

    private void closedHours() {
        RiverParcelService x = Scenes.places(2);
        for (int phase = 0; phase < 6; phase++) {
            x.addLink(0, 1, 1, phase);
        }
        for (int hour : new int[] {0, 1, 4, 5, 6, 7, 11, 12, 9995, 9996, 9999}) {
            for (int phase = 0; phase < 6; phase++) {
                due("phase " + phase + " at hour " + hour, hour % 6 != phase, x.isOpenAt(phase, hour));
            }
        }
        RiverParcelService y = Scenes.places(2);
        y.addLink(0, 1, 1, 0);
        y.addLink(0, 1, 1, 5);
        y.post(0, 1, 1, 1);
        for (int hour = 0; hour < 14; hour++) {
            due("phase 0 now, hour " + hour, hour % 6 != 0, y.canSend(0, 0));
            due("phase 5 now, hour " + hour, hour % 6 != 5, y.canSend(0, 1));
            y.pass(1);
        }
        y.block(0);
        for (int hour = 14; hour < 21; hour++) {
            due("blocked now, hour " + hour, false, y.canSend(0, 0));
            due("blocked at hour " + hour, false, y.isOpenAt(0, hour));
            y.pass(1);
        }
    }

    private void severalLinks() {
        RiverParcelService x = Scenes.places(2);
        x.addLink(0, 1, 4, 0);
        due("the same link again", 1, x.addLink(0, 1, 4, 0));
        due("a third one", 2, x.addLink(0, 1, 2, 3));
        x.block(1);
        due("each has its own blocking", false, x.isBlocked(0));
        due("each has its own hours", 4, x.travelTime(1));
        due("all lead there", 3, x.degree(1));
    }

    private void capacity() {
        RiverParcelService x = Scenes.places(2);
        x.addLink(0, 1, 4, 5);
        x.addLink(0, 1, 4, 5);
        int[] weights = {9, 2, 1, 1};
        for (int weight : weights) {
            x.post(0, 1, weight, 2);
        }
        due("9 alone", 4, x.send(0, 0));
        refused("9 and 2", STATE, () -> x.send(1, 0));
        due("still 9", 9, x.loadOf(0));
        due("9 and 1", 4, x.send(2, 0));
        due("full", 10, x.loadOf(0));
        refused("10 and 1", STATE, () -> x.send(3, 0));
        due("each link has its own capacity", 4, x.send(1, 1));
        x.pass(3);
        refused("full in the last hour", STATE, () -> x.send(3, 0));
        x.pass(1);
        due("empty when they have arrived", 0, x.loadOf(0));
        due("room again", 8, x.send(3, 0));
        dispatchUpToCapacity();
    }

    private void dispatchUpToCapacity() {
        RiverParcelService x = Scenes.places(2);
        x.addLink(0, 1, 4, 5);
        int[] weights = {4, 7, 5, 2, 1};
        for (int weight : weights) {
            x.post(0, 1, weight, 1);
        }
        due("4, 5 and 1 are sent", 3, x.dispatch());
        due("10 together", 10, x.loadOf(0));
        due("7 waits", false, x.isTravelling(1));
        due("2 waits", false, x.isTravelling(3));
    }

    private void twelveParcels() {
        RiverParcelService x = Scenes.parcels(11);
        due("a 12th one", 11, x.post(0, 1, 1, 1));
        refused("a 13th one", STATE, () -> x.post(0, 1, 1, 1));
        due("still 12", 12, x.parcelCount());
        x.takeBack(4);
        due("room when one is taken back", 12, x.post(0, 1, 1, 1));
        refused("full again", STATE, () -> x.post(0, 1, 1, 1));
        x.send(12, 0);
        refused("a travelling one is in the service", STATE, () -> x.post(0, 1, 1, 1));
        x.pass(1);
        refused("also in its last hour", STATE, () -> x.post(0, 1, 1, 1));
        x.pass(1);
        due("room when one is delivered", 13, x.post(0, 1, 1, 1));
        refused("full once more", STATE, () -> x.post(0, 1, 1, 1));
        int[] ids = {0, 1, 2, 3, 5, 6, 7, 8, 9, 10, 11, 13};
        for (int i = 0; i < 12; i++) {
            due("those in the service", ids[i], x.idAt(i));
        }
    }

    private void nextId() {
        RiverParcelService x = Scenes.parcels(0);
        due("the first one", 0, x.post(0, 1, 1, 1));
        refused("a refused one", ARGUMENT, () -> x.post(0, 1, 0, 1));
        due("takes no id", 1, x.post(0, 1, 1, 1));
        x.takeBack(1);
        due("the id of one taken back is not free", 2, x.post(0, 1, 1, 1));
        x.send(2, 0);
        x.pass(2);
        due("nor that of one delivered", 3, x.post(0, 1, 1, 1));
        x.takeBack(0);
        x.takeBack(3);
        due("nor any when none is left", 4, x.post(0, 1, 1, 1));
    }

    private void nextIdTakenBack() {
        RiverParcelService x = Scenes.parcels(2);
        x.undo();
        due("after undo", 1, x.post(0, 1, 1, 1));
        x.takeBack(1);
        x.undo();
        x.undo();
        due("after undo of takeBack and post", 1, x.post(1, 0, 1, 1));
        x.save();
        x.post(0, 1, 1, 1);
        x.post(0, 1, 1, 1);
        x.restore();
        due("after restore", 2, x.post(0, 1, 1, 1));
        Scenes.run(x, "post 01 1*1;post 01 1*1");
        x.undo();
        due("after undo of run", 3, x.post(0, 1, 1, 1));
    }

    private void parcelRanges() {
        for (int weight = 0; weight <= 10; weight++) {
            for (int stamps : new int[] {-1, 0, 1, 19, 20, 21}) {
                RiverParcelService x = Scenes.parcels(0);
                boolean fine = weight >= 1 && weight <= 9 && stamps >= 0 && stamps <= 20;
                int w = weight;
                due("weight " + weight + ", stamps " + stamps, fine ? 0 : ARGUMENT.getSimpleName(),
                        Checks.outcomeOf(() -> x.post(1, 0, w, stamps)));
                due("parcels", fine ? 1 : 0, x.parcelCount());
            }
        }
        RiverParcelService x = Scenes.parcels(1);
        due("waiting in its place", 0, x.placeOf(0));
        refused("and on no link", ELEMENT, () -> x.linkOf(0));
        x.send(0, 0);
        refused("in no place", ELEMENT, () -> x.placeOf(0));
        due("and travelling on its link", 0, x.linkOf(0));
        due("its destination", 1, x.destinationOf(0));
    }

    private void stampUsedUp() {
        RiverParcelService x = Scenes.river();
        x.post(0, 2, 1, 1);
        x.post(0, 2, 1, 20);
        x.send(0, 0);
        x.send(1, 0);
        due("of 1 stamp", 0, x.stampsOf(0));
        due("of 20 stamps", 19, x.stampsOf(1));
        due("used up", 2, x.usedStamps());
        x.pass(1);
        due("travelling in the last hour", true, x.isTravelling(0));
        x.pass(1);
        due("it has arrived", false, x.isTravelling(0));
        due("no stamp for the arrival", 0, x.stampsOf(0));
        refused("no stamp is left", STATE, () -> x.send(0, 1));
        due("one with stamps goes on", 5, x.send(1, 1));
        due("used up then", 3, x.usedStamps());
    }

    private void arrivalHour() {
        RiverParcelService x = Scenes.places(2);
        x.addLink(0, 1, 1, 5);
        x.addLink(0, 1, 9, 5);
        for (int i = 0; i < 4; i++) {
            x.post(0, 1, 1, 1);
        }
        due("1 hour, from hour 0", 1, x.send(0, 0));
        due("9 hours, from hour 0", 9, x.send(1, 1));
        due("not at once", 2, x.arrivalsWithin(120));
        due("after 1 hour", 1, x.pass(1));
        due("before 9 hours", 0, x.pass(7));
        due("after 9 hours", 1, x.pass(1));
        x.pass(1);
        due("9 hours, from hour 10", 19, x.send(2, 1));
        due("1 hour, from hour 10", 11, x.send(3, 0));
        due("arrival", 19, x.arrivalOf(2));
    }

    private void delivered() {
        RiverParcelService x = Scenes.river();
        x.post(0, 2, 1, 2);
        x.post(0, 1, 1, 1);
        x.dispatch();
        due("one of two is there", 1, x.pass(2));
        due("the other one is not", 0, x.idAt(0));
        due("it waits on its way", 1, x.placeOf(0));
        refused("the delivered one has left", ELEMENT, () -> x.placeOf(1));
        due("delivered", 1, x.deliveredTotal());
        x.dispatch();
        due("the other one, too", 1, x.pass(3));
        due("none is left", 0, x.parcelCount());
        due("delivered in all", 2, x.deliveredTotal());
    }

    private void hourPasses() {
        RiverParcelService x = Scenes.river();
        for (int i = 0; i < 4; i++) {
            x.post(0, i == 2 ? 2 : 1, 1, 1);
        }
        x.send(3, 0);
        x.send(2, 0);
        x.send(0, 0);
        x.pass(1);
        due("the counter", 1, x.hour());
        x.send(1, 0);
        due("arrivals at hour 2, not at 3", 2, x.pass(1));
        due("the counter then", 2, x.hour());
        due("in the order of ids", 1, x.idAt(0));
        due("in the order of ids, then", 2, x.idAt(1));
        due("not yet arrived", true, x.isTravelling(1));
        due("arrived, not delivered", 1, x.placeOf(2));
        due("arrival at hour 3", 1, x.pass(1));
    }

    private void waiting() {
        RiverParcelService x = Scenes.places(3);
        x.addLink(0, 1, 2, 4);
        x.addLink(1, 2, 3, 0);
        int[] due = {5, 6, 7, 8, 10, 10, 11, 12};
        for (int hour = 0; hour < 8; hour++) {
            due("settled, from hour " + hour, due[hour], x.earliestArrival(0, 2, hour));
            due("by hours, from hour " + hour, due[hour], x.earliestArrivalByHours(0, 2, hour));
        }
        x.post(0, 1, 9, 1);
        x.post(0, 2, 9, 1);
        x.send(0, 0);
        due("the first link is full", 5, x.earliestArrival(0, 2, 0));
        due("the first link is full, by hours", 5, x.earliestArrivalByHours(0, 2, 0));
        due("forecast over a full link", 5, x.forecast(1));
    }

    private void samePlace() {
        RiverParcelService x = Scenes.river();
        for (int hour : new int[] {0, 5, 6, 9999}) {
            for (int place = 0; place < 3; place++) {
                due("settled", hour, x.earliestArrival(place, place, hour));
                due("by hours", hour, x.earliestArrivalByHours(place, place, hour));
            }
        }
        x.addLink(0, 2, 5, 0);
        int[] smallest = {5, 6, 7, 8, 9, 10, 11};
        for (int hour = 0; hour < 7; hour++) {
            due("the smallest of two ways, settled", smallest[hour], x.earliestArrival(0, 2, hour));
            due("the smallest of two ways, by hours", smallest[hour], x.earliestArrivalByHours(0, 2, hour));
        }
    }

    private void forecasts() {
        RiverParcelService x = Scenes.river();
        x.post(0, 2, 1, 1);
        x.post(0, 2, 1, 1);
        x.post(0, 1, 1, 1);
        due("waiting at hour 0, closed at 5", 5, x.forecast(0));
        x.pass(2);
        due("waiting at hour 2", 7, x.forecast(0));
        x.pass(1);
        due("waiting at hour 3, closed at 5", 9, x.forecast(0));
        x.send(1, 0);
        x.send(2, 0);
        x.pass(1);
        due("travelling, arrives at hour 5, when it is closed", 9, x.forecast(1));
        due("travelling to its destination", 5, x.forecast(2));
        due("waiting at hour 4", 9, x.forecast(0));
        x.pass(1);
        due("waiting at hour 5", 11, x.forecast(0));
        x.block(0);
        refused("no way", ELEMENT, () -> x.forecast(0));
        due("a way from where it is", 9, x.forecast(1));
    }

    private void nextLinks() {
        RiverParcelService x = Scenes.places(3);
        x.addLink(0, 2, 6, 5);
        x.addLink(0, 1, 2, 0);
        x.addLink(0, 1, 2, 0);
        x.addLink(1, 2, 3, 5);
        x.addLink(0, 2, 5, 0);
        x.addLink(1, 0, 1, 5);
        x.post(0, 2, 9, 0);
        due("open now, of several ways of 6 hours", 0, x.nextLink(0));
        x.block(0);
        due("the earliest arrival", 6, x.forecast(0));
        refused("all of them are closed now", ELEMENT, () -> x.nextLink(0));
        x.open(0);
        x.pass(1);
        due("the lowest number of three", 1, x.nextLink(0));
        x.block(1);
        due("the lowest number of two", 2, x.nextLink(0));
        x.block(2);
        due("the last one", 4, x.nextLink(0));
        x.block(4);
        due("the slow one", 0, x.nextLink(0));
        x.block(0);
        refused("no way", ELEMENT, () -> x.nextLink(0));
    }

    private void dispatchOrder() {
        RiverParcelService x = Scenes.places(2);
        due("without links and parcels", 0, x.dispatch());
        x.addLink(0, 1, 2, 5);
        x.post(0, 1, 6, 1);
        x.post(0, 1, 5, 1);
        due("room for one of them", 1, x.dispatch());
        due("the lower id", true, x.isTravelling(0));
        due("not the higher id", false, x.isTravelling(1));
        x.undo();
        x.takeBack(0);
        x.post(0, 1, 6, 1);
        due("room for one of them again", 1, x.dispatch());
        due("the lower id again", true, x.isTravelling(1));
        RiverParcelService y = Scenes.places(2);
        y.addLink(0, 1, 2, 5);
        for (int i = 0; i < 12; i++) {
            y.post(0, 1, 1, 1);
        }
        due("ten of twelve", 10, y.dispatch());
        due("the tenth", true, y.isTravelling(9));
        due("not the eleventh", false, y.isTravelling(10));
        due("those on the way are not considered", 0, y.dispatch());
    }

    private void dispatchConditions() {
        RiverParcelService x = Scenes.places(3);
        x.addLink(0, 1, 2, 5);
        x.addLink(0, 1, 3, 5);
        x.addLink(1, 2, 2, 3);
        x.post(0, 1, 9, 1);
        x.post(0, 1, 2, 1);
        x.post(0, 1, 1, 0);
        x.post(2, 0, 1, 1);
        x.post(1, 2, 1, 20);
        due("the first one and the last one", 2, x.dispatch());
        due("9 goes", 0, x.linkOf(0));
        due("2 does not go over a slower link", false, x.isTravelling(1));
        due("no stamps", false, x.isTravelling(2));
        due("no way", false, x.isTravelling(3));
        due("with stamps", 2, x.linkOf(4));
        x.addStamps(2, 1);
        due("with 1 stamp and room for 1", 1, x.dispatch());
        x.pass(5);
        due("closed at hour 5", 0, x.dispatch());
        x.pass(1);
        due("open at hour 6", 1, x.dispatch());
    }
}
