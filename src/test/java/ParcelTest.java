import java.util.NoSuchElementException;

/** Promises 6 to 11, 20, 21, 23 to 32, 39, 42 to 48, 50, 51 and 53: parcels, stamps and dispatches. */
public final class ParcelTest {
    private static final Checks CHECKS = new Checks();
    private static final Class<IndexOutOfBoundsException> INDEX = IndexOutOfBoundsException.class;
    private static final Class<IllegalArgumentException> ARGUMENT = IllegalArgumentException.class;
    private static final Class<IllegalStateException> STATE = IllegalStateException.class;
    private static final Class<NoSuchElementException> ELEMENT = NoSuchElementException.class;

    public static void main(String[] args) {
        posting();
        wrongPosts();
        twelveParcels();
        sending();
        refusedSends();
        closedAndFullLinks();
        stamps();
        takingBack();
        dispatching();
        passing();
        loads();
        positions();
        states();
        unknownIds();
        arrivals();
        deliveriesOnACopy();
        totals();
        means();
        formattedParcels();
        CHECKS.end();
    }

    private static void posting() {
        RiverParcelService x = Scenes.river();
        CHECKS.due("6: post", 0, x.post(0, 2, 1, 0));
        CHECKS.due("6: post again", 1, x.post(2, 1, 9, 20));
        CHECKS.due("29: destination", 1, x.destinationOf(1));
        CHECKS.due("30: weight", 9, x.weightOf(1));
        CHECKS.due("31: stamps", 20, x.stampsOf(1));
        CHECKS.due("26: place", 2, x.placeOf(1));
        CHECKS.due("25: waiting", false, x.isTravelling(1));
        CHECKS.due("29: destination of the first one", 2, x.destinationOf(0));
        CHECKS.due("30: weight of the first one", 1, x.weightOf(0));
        CHECKS.due("31: stamps of the first one", 0, x.stampsOf(0));
        CHECKS.due("23: parcels", 2, x.parcelCount());
        x.takeBack(1);
        CHECKS.due("6: the id of a parcel taken back is not given again", 2, x.post(0, 1, 1, 1));
    }

    private static void wrongPosts() {
        RiverParcelService x = Scenes.river();
        int[] badPlaces = {-1, 3, Integer.MIN_VALUE, Integer.MAX_VALUE};
        for (int bad : badPlaces) {
            CHECKS.refused("6: from " + bad, INDEX, () -> x.post(bad, 1, 1, 0));
            CHECKS.refused("6: to " + bad, INDEX, () -> x.post(0, bad, 1, 0));
            CHECKS.refused("6: the place comes first " + bad, INDEX, () -> x.post(0, bad, 0, 21));
        }
        int[][] bad = {{0, 0, 1, 0}, {0, 1, 0, 0}, {0, 1, 10, 0}, {0, 1, 1, -1}, {0, 1, 1, 21}};
        for (int[] a : bad) {
            CHECKS.refused("6: bad arguments", ARGUMENT, () -> x.post(a[0], a[1], a[2], a[3]));
        }
        CHECKS.due("6: nothing was posted", 0, x.postedTotal() + x.parcelCount());
    }

    private static void twelveParcels() {
        RiverParcelService x = Scenes.river();
        for (int i = 0; i < 12; i++) {
            CHECKS.due("6: post", i, x.post(0, 2, 1, 1));
        }
        CHECKS.refused("6: a 13th parcel", STATE, () -> x.post(0, 2, 1, 1));
        CHECKS.refused("6: arguments come first", ARGUMENT, () -> x.post(0, 0, 1, 1));
        CHECKS.refused("6: places come first", INDEX, () -> x.post(0, 3, 1, 1));
        CHECKS.due("44: 12 were posted", 12, x.postedTotal());
        x.takeBack(11);
        CHECKS.due("6: there is room again", 12, x.post(0, 2, 1, 1));
        CHECKS.due("24: the last position", 12, x.idAt(11));
    }

    private static void sending() {
        RiverParcelService x = Scenes.river();
        x.post(0, 2, 5, 2);
        x.pass(1);
        CHECKS.due("39: canSend", true, x.canSend(0, 0));
        CHECKS.due("7: send", 3, x.send(0, 0));
        CHECKS.due("25: travelling", true, x.isTravelling(0));
        CHECKS.due("27: link", 0, x.linkOf(0));
        CHECKS.due("28: arrival", 3, x.arrivalOf(0));
        CHECKS.due("31: one stamp is used up", 1, x.stampsOf(0));
        CHECKS.due("47: used stamps", 1, x.usedStamps());
        CHECKS.due("11: it arrives, but not in its destination", 0, x.pass(2));
        CHECKS.due("26: place", 1, x.placeOf(0));
        CHECKS.due("25: waiting", false, x.isTravelling(0));
        CHECKS.due("7: send on", 6, x.send(0, 1));
        CHECKS.due("11: not yet there", 0, x.pass(2));
        CHECKS.due("11: delivered", 1, x.pass(1));
        CHECKS.due("45: delivered", 1, x.deliveredTotal());
        CHECKS.due("23: it has left", 0, x.parcelCount());
        CHECKS.due("47: used stamps", 2, x.usedStamps());
    }

    private static void refusedSends() {
        RiverParcelService x = Scenes.river();
        x.post(0, 2, 5, 1);
        x.post(0, 2, 5, 0);
        CHECKS.refused("7: no such parcel", ELEMENT, () -> x.send(2, 0));
        CHECKS.refused("7: the parcel comes first", ELEMENT, () -> x.send(-1, 9));
        CHECKS.refused("7: no such link", INDEX, () -> x.send(0, 2));
        CHECKS.refused("7: link -1", INDEX, () -> x.send(0, -1));
        CHECKS.refused("7: another place", STATE, () -> x.send(0, 1));
        CHECKS.refused("7: no stamps", STATE, () -> x.send(1, 0));
        CHECKS.refused("39: no such parcel", ELEMENT, () -> x.canSend(2, 0));
        CHECKS.refused("39: the parcel comes first", ELEMENT, () -> x.canSend(-1, 9));
        CHECKS.refused("39: no such link", INDEX, () -> x.canSend(0, 2));
        CHECKS.refused("39: link -1", INDEX, () -> x.canSend(0, -1));
        CHECKS.due("39: another place", false, x.canSend(0, 1));
        CHECKS.due("39: no stamps", false, x.canSend(1, 0));
        x.send(0, 0);
        CHECKS.refused("7: travelling", STATE, () -> x.send(0, 0));
        CHECKS.due("39: travelling", false, x.canSend(0, 0));
        CHECKS.refused("7: travelling, the link comes first", INDEX, () -> x.send(0, 2));
        x.addStamps(0, 5);
        CHECKS.refused("7: travelling towards the link's place", STATE, () -> x.send(0, 1));
        CHECKS.due("39: travelling towards the link's place", false, x.canSend(0, 1));
        CHECKS.due("47: only one stamp is used up", 1, x.usedStamps());
    }

    private static void closedAndFullLinks() {
        RiverParcelService x = Scenes.places(2);
        x.addLink(0, 1, 9, 0);
        for (int i = 0; i < 4; i++) {
            x.post(0, 1, i == 2 ? 3 : 4, 1);
        }
        x.post(0, 1, 2, 1);
        CHECKS.refused("7: closed", STATE, () -> x.send(0, 0));
        CHECKS.due("39: closed", false, x.canSend(0, 0));
        x.pass(1);
        x.block(0);
        CHECKS.refused("7: blocked", STATE, () -> x.send(0, 0));
        CHECKS.due("39: blocked", false, x.canSend(0, 0));
        x.open(0);
        x.send(0, 0);
        x.send(1, 0);
        CHECKS.due("20: weight on the link", 8, x.loadOf(0));
        CHECKS.refused("7: 11 are too much", STATE, () -> x.send(2, 0));
        CHECKS.due("39: 11 are too much", false, x.canSend(2, 0));
        CHECKS.due("39: 10 are not", true, x.canSend(4, 0));
        CHECKS.due("7: 10 are not too much", 10, x.send(4, 0));
        CHECKS.due("50: consistent", true, x.isConsistent());
        CHECKS.due("11: all three are delivered", 3, x.pass(9));
        CHECKS.due("20: nothing is left on the link", 0, x.loadOf(0));
        CHECKS.due("23: two are left", 2, x.parcelCount());
    }

    private static void stamps() {
        RiverParcelService x = Scenes.river();
        x.post(0, 2, 5, 0);
        CHECKS.due("8: addStamps", 1, x.addStamps(0, 1));
        CHECKS.due("8: up to 20", 20, x.addStamps(0, 19));
        CHECKS.refused("8: 21", STATE, () -> x.addStamps(0, 1));
        CHECKS.refused("8: 0", ARGUMENT, () -> x.addStamps(0, 0));
        CHECKS.refused("8: -1", ARGUMENT, () -> x.addStamps(0, -1));
        CHECKS.refused("8: 21 at once", ARGUMENT, () -> x.addStamps(0, 21));
        CHECKS.refused("8: very many", ARGUMENT, () -> x.addStamps(0, Integer.MAX_VALUE));
        CHECKS.refused("8: the parcel comes first", ELEMENT, () -> x.addStamps(1, 0));
        CHECKS.due("31: stamps", 20, x.stampsOf(0));
        x.send(0, 0);
        CHECKS.due("8: to a travelling parcel", 20, x.addStamps(0, 1));
        CHECKS.due("47: given stamps are not used up", 1, x.usedStamps());
        x.post(0, 2, 5, 0);
        CHECKS.due("8: 20 at once", 20, x.addStamps(1, 20));
    }

    private static void takingBack() {
        RiverParcelService x = Scenes.river();
        x.post(0, 2, 5, 7);
        x.post(0, 2, 5, 8);
        x.post(0, 2, 5, 9);
        CHECKS.due("9: takeBack", 8, x.takeBack(1));
        CHECKS.refused("9: it is gone", ELEMENT, () -> x.takeBack(1));
        CHECKS.refused("9: never posted", ELEMENT, () -> x.takeBack(3));
        CHECKS.refused("9: id -1", ELEMENT, () -> x.takeBack(-1));
        x.send(0, 0);
        CHECKS.refused("9: travelling", STATE, () -> x.takeBack(0));
        CHECKS.due("46: taken back", 1, x.takenBackTotal());
        CHECKS.due("45: not delivered", 0, x.deliveredTotal());
        CHECKS.due("23: two are left", 2, x.parcelCount());
        CHECKS.due("24: the second one is now the third", 2, x.idAt(1));
        CHECKS.due("31: and has its own stamps", 9, x.stampsOf(2));
        CHECKS.due("50: consistent", true, x.isConsistent());
    }

    private static void dispatching() {
        RiverParcelService x = Scenes.places(3);
        CHECKS.due("10: nothing to send", 0, x.dispatch());
        x.addLink(0, 1, 2, 5);
        x.addLink(0, 2, 9, 5);
        x.post(0, 1, 7, 1);
        x.post(0, 1, 4, 1);
        x.post(0, 1, 3, 1);
        x.post(0, 1, 1, 0);
        x.post(1, 0, 1, 5);
        x.post(0, 2, 8, 1);
        CHECKS.due("10: the heavy one is left out, the light one behind it goes", 3, x.dispatch());
        CHECKS.due("10: the first one", true, x.isTravelling(0));
        CHECKS.due("10: too heavy", false, x.isTravelling(1));
        CHECKS.due("10: it fits", true, x.isTravelling(2));
        CHECKS.due("10: no stamps", false, x.isTravelling(3));
        CHECKS.due("10: no way", false, x.isTravelling(4));
        CHECKS.due("10: over another link", 1, x.linkOf(5));
        CHECKS.due("47: used stamps", 3, x.usedStamps());
        CHECKS.due("10: again", 0, x.dispatch());
        CHECKS.due("11: two arrive", 2, x.pass(2));
        CHECKS.due("10: now there is room", 1, x.dispatch());
        x.pass(1);
        x.addStamps(3, 1);
        CHECKS.due("10: stamps were added", 1, x.dispatch());
        CHECKS.due("28: it arrives", 5, x.arrivalOf(3));
    }

    private static void passing() {
        RiverParcelService x = Scenes.river();
        x.post(0, 1, 3, 1);
        x.post(0, 2, 3, 1);
        x.post(0, 1, 3, 1);
        x.dispatch();
        CHECKS.due("11: before they arrive", 0, x.pass(1));
        CHECKS.due("11: two of three are delivered", 2, x.pass(120));
        CHECKS.due("24: the third one is left", 1, x.idAt(0));
        CHECKS.due("26: and waits on its way", 1, x.placeOf(1));
        CHECKS.due("12: hour", 121, x.hour());
    }

    private static void loads() {
        RiverParcelService x = Scenes.places(2);
        CHECKS.refused("21: no links", ELEMENT, x::busiestLink);
        x.addLink(0, 1, 5, 5);
        x.addLink(0, 1, 5, 5);
        x.addLink(0, 1, 5, 5);
        CHECKS.due("21: all are empty", 0, x.busiestLink());
        x.post(0, 1, 1, 1);
        x.send(0, 1);
        CHECKS.due("21: a weight of 1 is enough", 1, x.busiestLink());
        x.undo();
        x.undo();
        x.post(0, 1, 3, 1);
        x.post(0, 1, 5, 1);
        x.post(0, 1, 2, 1);
        x.send(0, 2);
        CHECKS.due("21: the only one", 2, x.busiestLink());
        x.send(1, 1);
        CHECKS.due("21: the heavier one", 1, x.busiestLink());
        x.send(2, 2);
        CHECKS.due("21: the lower number of two", 1, x.busiestLink());
        CHECKS.due("20: together", 5, x.loadOf(2));
        CHECKS.due("20: empty", 0, x.loadOf(0));
    }

    private static void positions() {
        RiverParcelService x = Scenes.river();
        CHECKS.refused("24: no parcels", INDEX, () -> x.idAt(0));
        x.post(0, 2, 5, 1);
        x.post(0, 2, 5, 1);
        x.post(1, 2, 5, 1);
        x.takeBack(0);
        CHECKS.due("24: first", 1, x.idAt(0));
        CHECKS.due("24: second", 2, x.idAt(1));
        CHECKS.refused("24: position 2", INDEX, () -> x.idAt(2));
        CHECKS.refused("24: position -1", INDEX, () -> x.idAt(-1));
        CHECKS.due("32: in place 0", 1, x.waitingIn(0));
        CHECKS.due("32: in place 1", 1, x.waitingIn(1));
        x.send(1, 0);
        CHECKS.due("32: none waits where one travels from", 0, x.waitingIn(0));
        CHECKS.due("32: nor where it will arrive", 1, x.waitingIn(1));
        x.pass(2);
        CHECKS.due("32: it has arrived", 2, x.waitingIn(1));
        CHECKS.due("32: none in place 2", 0, x.waitingIn(2));
        CHECKS.refused("32: place 3", INDEX, () -> x.waitingIn(3));
        CHECKS.refused("32: place -1", INDEX, () -> x.waitingIn(-1));
    }

    private static void states() {
        RiverParcelService x = Scenes.river();
        x.post(0, 2, 5, 1);
        CHECKS.refused("27: waiting", ELEMENT, () -> x.linkOf(0));
        CHECKS.refused("28: waiting", ELEMENT, () -> x.arrivalOf(0));
        x.send(0, 0);
        CHECKS.refused("26: travelling", ELEMENT, () -> x.placeOf(0));
        CHECKS.refused("38: travelling", ELEMENT, () -> x.nextLink(0));
    }

    private static void unknownIds() {
        RiverParcelService x = Scenes.river();
        x.post(0, 1, 5, 1);
        x.post(0, 1, 5, 1);
        x.takeBack(0);
        int[] badIds = {0, -1, 2, Integer.MIN_VALUE, Integer.MAX_VALUE};
        for (int bad : badIds) {
            CHECKS.refused("25: id " + bad, ELEMENT, () -> x.isTravelling(bad));
            CHECKS.refused("26: id " + bad, ELEMENT, () -> x.placeOf(bad));
            CHECKS.refused("27: id " + bad, ELEMENT, () -> x.linkOf(bad));
            CHECKS.refused("28: id " + bad, ELEMENT, () -> x.arrivalOf(bad));
            CHECKS.refused("29: id " + bad, ELEMENT, () -> x.destinationOf(bad));
            CHECKS.refused("30: id " + bad, ELEMENT, () -> x.weightOf(bad));
            CHECKS.refused("31: id " + bad, ELEMENT, () -> x.stampsOf(bad));
            CHECKS.refused("37: id " + bad, ELEMENT, () -> x.forecast(bad));
            CHECKS.refused("38: id " + bad, ELEMENT, () -> x.nextLink(bad));
            CHECKS.refused("39: id " + bad, ELEMENT, () -> x.canSend(bad, 0));
            CHECKS.refused("40: id " + bad, ELEMENT, () -> x.stampsMissing(bad));
            CHECKS.refused("51: id " + bad, ELEMENT, () -> x.formatParcel(bad));
        }
    }

    private static void arrivals() {
        RiverParcelService x = Scenes.river();
        x.post(0, 2, 2, 1);
        x.post(1, 2, 2, 1);
        x.post(0, 2, 2, 1);
        x.pass(1);
        x.send(0, 0);
        x.send(1, 1);
        CHECKS.due("42: within 1", 0, x.arrivalsWithin(1));
        CHECKS.due("42: within 2", 1, x.arrivalsWithin(2));
        CHECKS.due("42: within 3", 2, x.arrivalsWithin(3));
        CHECKS.due("42: within 120", 2, x.arrivalsWithin(120));
        int[] badHours = {0, -1, 121, Integer.MIN_VALUE, Integer.MAX_VALUE};
        for (int bad : badHours) {
            CHECKS.refused("42: hours " + bad, ARGUMENT, () -> x.arrivalsWithin(bad));
        }
    }

    private static void deliveriesOnACopy() {
        RiverParcelService x = Scenes.river();
        x.post(0, 2, 8, 2);
        x.post(0, 2, 8, 2);
        x.post(0, 2, 1, 1);
        x.post(0, 1, 1, 1);
        x.save();
        CHECKS.due("43: 1 hour", 0, x.deliveredIf(1));
        CHECKS.due("43: 2 hours", 1, x.deliveredIf(2));
        CHECKS.due("43: 5 hours", 2, x.deliveredIf(5));
        CHECKS.due("43: 6 hours", 2, x.deliveredIf(6));
        CHECKS.due("43: 8 hours, full at hour 4 and closed at hour 5", 2, x.deliveredIf(8));
        CHECKS.due("43: 9 hours", 3, x.deliveredIf(9));
        CHECKS.due("43: 60 hours", 3, x.deliveredIf(60));
        CHECKS.due("43: only a copy was changed", 4, x.parcelCount());
        CHECKS.due("43: the hour stays", 0, x.hour());
        CHECKS.due("43: nothing was delivered", 0, x.deliveredTotal());
        CHECKS.due("43: no stamps were used up", 0, x.usedStamps());
        x.restore();
        x.deliveredIf(3);
        CHECKS.due("43: it is no change", 0, x.undoableCount());
        int[] badHours = {0, -1, 61, Integer.MIN_VALUE, Integer.MAX_VALUE};
        for (int bad : badHours) {
            CHECKS.refused("43: hours " + bad, ARGUMENT, () -> x.deliveredIf(bad));
        }
    }

    private static void totals() {
        RiverParcelService x = Scenes.river();
        x.post(0, 1, 1, 1);
        x.post(0, 1, 1, 1);
        x.post(0, 1, 1, 1);
        x.takeBack(1);
        x.dispatch();
        x.pass(2);
        CHECKS.due("44: posted", 3, x.postedTotal());
        CHECKS.due("45: delivered", 2, x.deliveredTotal());
        CHECKS.due("46: taken back", 1, x.takenBackTotal());
        CHECKS.due("47: used stamps", 2, x.usedStamps());
        CHECKS.due("50: consistent", true, x.isConsistent());
        for (int i = 0; i < 100; i++) {
            x.pass(120);
        }
        CHECKS.due("50: consistent after hour 9999", true, x.isConsistent());
        x.post(0, 2, 1, 1);
        CHECKS.due("37: forecast after hour 9999", 12002 + 5, x.forecast(3));
    }

    private static void means() {
        RiverParcelService x = Scenes.river();
        CHECKS.refused("48: no parcels", ArithmeticException.class, x::meanStamps);
        x.post(0, 1, 1, 0);
        CHECKS.due("48: none", 0.0, x.meanStamps());
        x.post(0, 1, 1, 20);
        x.post(0, 1, 1, 0);
        CHECKS.due("48: a third of 20", 20.0 / 3.0, x.meanStamps());
        x.takeBack(1);
        CHECKS.due("48: of those in the service", 0.0, x.meanStamps());
        x.addStamps(0, 5);
        CHECKS.due("48: the first one counts", 2.5, x.meanStamps());
    }

    private static void formattedParcels() {
        RiverParcelService x = Scenes.places(5);
        CHECKS.refused("53: the line is empty at first", INDEX, () -> x.lineChar(0));
        for (int i = 0; i < 8; i++) {
            x.addLink(0, 4, 9, 5);
        }
        for (int i = 0; i < 12; i++) {
            x.post(0, 4, 1, 20);
            x.takeBack(i);
        }
        x.post(0, 4, 5, 4);
        CHECKS.due("51: length", 13, x.formatParcel(12));
        CHECKS.due("51: waiting", "#12 5*4 @0 >4", Scenes.line(x));
        x.pass(12);
        x.send(12, 7);
        CHECKS.due("51: length of the travelling one", 16, x.formatParcel(12));
        CHECKS.due("51: travelling", "#12 5*3 ~7:21 >4", Scenes.line(x));
        x.post(3, 1, 9, 20);
        CHECKS.due("51: a shorter line", 14, x.formatParcel(13));
        CHECKS.due("51: the line is replaced", "#13 9*20 @3 >1", Scenes.line(x));
        CHECKS.refused("51: no such parcel", ELEMENT, () -> x.formatParcel(11));
        CHECKS.due("51: the line stays", "#13 9*20 @3 >1", Scenes.line(x));
        CHECKS.due("53: first", '#', x.lineChar(0));
        CHECKS.due("53: last", '1', x.lineChar(13));
        int[] badIndexes = {-1, 14, 16, Integer.MIN_VALUE, Integer.MAX_VALUE};
        for (int bad : badIndexes) {
            CHECKS.refused("53: index " + bad, INDEX, () -> x.lineChar(bad));
        }
    }
}
