import java.util.NoSuchElementException;

/** Promises 33 to 38, 40 and 41: ways, forecasts and next links. */
public final class WaysTest {
    private static final Checks CHECKS = new Checks();
    private static final Class<IndexOutOfBoundsException> INDEX = IndexOutOfBoundsException.class;
    private static final Class<IllegalArgumentException> ARGUMENT = IllegalArgumentException.class;
    private static final Class<NoSuchElementException> ELEMENT = NoSuchElementException.class;

    public static void main(String[] args) {
        arrivals();
        longestWay();
        wrongArrivals();
        fewestLinks();
        reachablePlaces();
        forecasts();
        nextLinks();
        nextLinkThatComesBack();
        missingStamps();
        ranks();
        CHECKS.end();
    }

    private static void bothArrivals(RiverParcelService x, int from, int to, int hour, int want) {
        String what = from + " to " + to + " at " + hour;
        CHECKS.due("34: " + what, want, x.earliestArrivalByHours(from, to, hour));
        CHECKS.due("33: " + what, want, x.earliestArrival(from, to, hour));
    }

    private static void noArrival(RiverParcelService x, int from, int to) {
        CHECKS.refused("33: unreachable", ELEMENT, () -> x.earliestArrival(from, to, 0));
        CHECKS.refused("34: unreachable", ELEMENT, () -> x.earliestArrivalByHours(from, to, 0));
    }

    private static void arrivals() {
        RiverParcelService x = Scenes.places(4);
        x.addLink(0, 1, 2, 0);
        x.addLink(1, 2, 3, 3);
        x.addLink(0, 2, 9, 1);
        x.addLink(0, 2, 6, 1);
        bothArrivals(x, 0, 0, 0, 0);
        bothArrivals(x, 3, 3, 9999, 9999);
        bothArrivals(x, 0, 1, 0, 3);
        bothArrivals(x, 0, 1, 1, 3);
        bothArrivals(x, 0, 1, 5, 7);
        bothArrivals(x, 0, 1, 6, 9);
        bothArrivals(x, 0, 2, 0, 6);
        bothArrivals(x, 0, 2, 1, 7);
        bothArrivals(x, 0, 2, 2, 7);
        bothArrivals(x, 0, 2, 9996, 10002);
        bothArrivals(x, 0, 2, 9999, 10004);
        noArrival(x, 1, 0);
        noArrival(x, 0, 3);
        x.block(1);
        bothArrivals(x, 0, 2, 0, 6);
        bothArrivals(x, 0, 2, 1, 8);
        x.block(3);
        bothArrivals(x, 0, 2, 1, 11);
        x.block(2);
        noArrival(x, 0, 2);
        bothArrivals(x, 0, 1, 0, 3);
    }

    /** Every place but the first is reached at a closed hour, so the way takes its 80 hours. */
    private static void longestWay() {
        RiverParcelService x = Scenes.places(9);
        for (int i = 0; i < 8; i++) {
            x.addLink(i, i + 1, 9, i * 10 % 6);
        }
        bothArrivals(x, 0, 8, 0, 80);
        bothArrivals(x, 0, 8, 9996, 9996 + 80);
        bothArrivals(x, 0, 7, 0, 70);
        CHECKS.due("50: consistent", true, x.isConsistent());
        CHECKS.due("35: 8 links", 8, x.fewestLinks(0, 8));
        CHECKS.due("36: all places", 9, x.reachable(0));
        CHECKS.due("36: the last place alone", 1, x.reachable(8));
    }

    private static void wrongArrivals() {
        RiverParcelService x = Scenes.places(2);
        int[] badPlaces = {-1, 2, Integer.MIN_VALUE, Integer.MAX_VALUE};
        for (int bad : badPlaces) {
            CHECKS.refused("33: from " + bad, INDEX, () -> x.earliestArrival(bad, 0, -1));
            CHECKS.refused("33: to " + bad, INDEX, () -> x.earliestArrival(0, bad, -1));
            CHECKS.refused("34: from " + bad, INDEX, () -> x.earliestArrivalByHours(bad, 0, -1));
            CHECKS.refused("34: to " + bad, INDEX, () -> x.earliestArrivalByHours(0, bad, -1));
            CHECKS.refused("35: from " + bad, INDEX, () -> x.fewestLinks(bad, 0));
            CHECKS.refused("35: to " + bad, INDEX, () -> x.fewestLinks(0, bad));
            CHECKS.refused("36: from " + bad, INDEX, () -> x.reachable(bad));
        }
        int[] badHours = {-1, 10000, Integer.MIN_VALUE, Integer.MAX_VALUE};
        for (int bad : badHours) {
            CHECKS.refused("33: hour " + bad, ARGUMENT, () -> x.earliestArrival(0, 1, bad));
            CHECKS.refused("34: hour " + bad, ARGUMENT, () -> x.earliestArrivalByHours(0, 1, bad));
            CHECKS.refused("33: the same place, hour " + bad, ARGUMENT, () -> x.earliestArrival(0, 0, bad));
        }
    }

    private static void fewestLinks() {
        RiverParcelService x = Scenes.places(4);
        x.addLink(2, 3, 1, 0);
        x.addLink(1, 2, 1, 0);
        x.addLink(0, 1, 1, 0);
        x.addLink(0, 2, 9, 0);
        x.addLink(3, 0, 1, 0);
        CHECKS.due("35: the same place", 0, x.fewestLinks(1, 1));
        CHECKS.due("35: one", 1, x.fewestLinks(0, 2));
        CHECKS.due("35: two, over the slow link", 2, x.fewestLinks(0, 3));
        CHECKS.due("35: round", 3, x.fewestLinks(1, 0));
        x.block(3);
        CHECKS.due("35: three, when it is blocked", 3, x.fewestLinks(0, 3));
        x.block(0);
        CHECKS.refused("35: unreachable", ELEMENT, () -> x.fewestLinks(0, 3));
        CHECKS.due("35: the same place still", 0, x.fewestLinks(3, 3));
    }

    private static void reachablePlaces() {
        RiverParcelService x = Scenes.places(4);
        CHECKS.due("36: no links", 1, x.reachable(0));
        x.addLink(0, 1, 1, 0);
        x.addLink(0, 1, 1, 0);
        x.addLink(1, 0, 1, 0);
        x.addLink(1, 2, 1, 0);
        x.addLink(3, 2, 1, 0);
        CHECKS.due("36: from 0", 3, x.reachable(0));
        CHECKS.due("36: from 1", 3, x.reachable(1));
        CHECKS.due("36: from 2", 1, x.reachable(2));
        CHECKS.due("36: from 3", 2, x.reachable(3));
        x.block(0);
        CHECKS.due("36: one of two links is blocked", 3, x.reachable(0));
        x.block(1);
        CHECKS.due("36: both are blocked", 1, x.reachable(0));
    }

    private static void forecasts() {
        RiverParcelService x = Scenes.places(3);
        x.addLink(0, 1, 2, 0);
        x.addLink(1, 2, 3, 3);
        x.post(0, 2, 1, 0);
        x.post(0, 2, 1, 1);
        x.post(1, 0, 1, 1);
        x.post(0, 1, 1, 1);
        CHECKS.due("37: waiting, without stamps", 7, x.forecast(0));
        CHECKS.refused("37: unreachable", ELEMENT, () -> x.forecast(2));
        x.pass(1);
        x.send(1, 0);
        x.send(3, 0);
        CHECKS.due("37: travelling, the next link is closed at its arrival", 7, x.forecast(1));
        CHECKS.due("37: travelling to its destination", 3, x.forecast(3));
        x.pass(1);
        CHECKS.due("37: the waiting one is later now", 7, x.forecast(0));
        x.pass(1);
        CHECKS.due("37: the waiting one is later still", 8, x.forecast(0));
        x.block(1);
        CHECKS.refused("37: blocked", ELEMENT, () -> x.forecast(1));
    }

    private static void nextLinks() {
        RiverParcelService x = Scenes.places(3);
        x.addLink(0, 2, 5, 0);
        x.addLink(0, 1, 2, 5);
        x.addLink(1, 2, 2, 5);
        x.addLink(0, 1, 2, 5);
        x.post(0, 2, 9, 0);
        x.post(2, 0, 1, 1);
        x.post(0, 1, 9, 5);
        CHECKS.due("38: the lower number of two", 1, x.nextLink(0));
        CHECKS.refused("38: unreachable", ELEMENT, () -> x.nextLink(1));
        x.block(1);
        CHECKS.due("38: the other one, when that is blocked", 3, x.nextLink(0));
        x.send(2, 3);
        CHECKS.due("38: capacities do not matter", 3, x.nextLink(0));
        x.block(3);
        CHECKS.refused("38: closed now", ELEMENT, () -> x.nextLink(0));
        CHECKS.due("37: it has a forecast all the same", 6, x.forecast(0));
        x.pass(1);
        CHECKS.due("38: open now", 0, x.nextLink(0));
        x.open(3);
        CHECKS.due("38: a faster way", 3, x.nextLink(0));
        x.pass(3);
        CHECKS.due("38: the faster way waits at hour 4 + 2", 3, x.nextLink(0));
        x.pass(1);
        CHECKS.due("38: the slow link is the only open one", 0, x.nextLink(0));
    }

    /**
     * From place 0 the way over 1 and back is as early as waiting, because a later link is closed
     * when the direct way comes to it: a way is any way with which one could leave now.
     */
    private static void nextLinkThatComesBack() {
        RiverParcelService x = Scenes.places(4);
        x.addLink(0, 1, 1, 5);
        x.addLink(1, 0, 1, 5);
        x.addLink(0, 2, 1, 0);
        x.addLink(2, 3, 1, 2);
        x.post(0, 3, 1, 5);
        CHECKS.due("37: earliest over place 2", 4, x.forecast(0));
        CHECKS.due("38: a way that comes back", 0, x.nextLink(0));
    }

    private static void missingStamps() {
        RiverParcelService x = Scenes.places(4);
        x.addLink(0, 1, 1, 5);
        x.addLink(1, 2, 1, 5);
        x.addLink(2, 3, 1, 5);
        x.post(0, 3, 1, 0);
        x.post(0, 3, 1, 2);
        x.post(0, 3, 1, 20);
        x.post(3, 0, 1, 20);
        x.post(0, 1, 1, 1);
        CHECKS.due("40: all are missing", 3, x.stampsMissing(0));
        CHECKS.due("40: one is missing", 1, x.stampsMissing(1));
        CHECKS.due("40: none is missing", 0, x.stampsMissing(2));
        CHECKS.refused("40: unreachable", ELEMENT, () -> x.stampsMissing(3));
        x.send(1, 0);
        CHECKS.due("40: from where it arrives", 1, x.stampsMissing(1));
        x.send(4, 0);
        CHECKS.due("40: on its last link", 0, x.stampsMissing(4));
        x.addLink(0, 3, 9, 5);
        CHECKS.due("40: a slow link counts as one", 1, x.stampsMissing(0));
    }

    private static void ranks() {
        RiverParcelService x = Scenes.places(3);
        CHECKS.refused("41: no parcels", ELEMENT, () -> x.parcelByForecast(0));
        x.addLink(0, 1, 2, 5);
        x.addLink(0, 2, 1, 5);
        x.post(1, 0, 1, 1);
        x.post(0, 1, 1, 1);
        x.post(0, 2, 1, 1);
        x.post(1, 2, 1, 1);
        x.post(0, 1, 1, 1);
        int[] order = {2, 1, 4, 0, 3};
        for (int rank = 0; rank < 5; rank++) {
            CHECKS.due("41: rank " + rank, order[rank], x.parcelByForecast(rank));
        }
        CHECKS.refused("41: rank 5", ELEMENT, () -> x.parcelByForecast(5));
        CHECKS.refused("41: rank -1", ELEMENT, () -> x.parcelByForecast(-1));
        CHECKS.refused("41: the greatest rank", ELEMENT, () -> x.parcelByForecast(Integer.MAX_VALUE));
        x.send(4, 0);
        x.pass(1);
        int[] later = {2, 4, 1, 0, 3};
        for (int rank = 0; rank < 5; rank++) {
            CHECKS.due("41: later, rank " + rank, later[rank], x.parcelByForecast(rank));
        }
    }
}
