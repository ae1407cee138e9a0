/** Promises 1 to 5, 12 to 19, 22, 49 and 52: places, links, blocking and the hour. */
public final class NetworkTest {
    private static final Checks CHECKS = new Checks();
    private static final Class<IndexOutOfBoundsException> INDEX = IndexOutOfBoundsException.class;
    private static final Class<IllegalArgumentException> ARGUMENT = IllegalArgumentException.class;
    private static final Class<IllegalStateException> STATE = IllegalStateException.class;

    public static void main(String[] args) {
        newObject();
        places();
        links();
        wrongLinks();
        twentyLinks();
        blocking();
        linkQuestions();
        openHours();
        degrees();
        shares();
        formattedLinks();
        hours();
        CHECKS.end();
    }

    private static void newObject() {
        RiverParcelService x = new RiverParcelService();
        CHECKS.due("1: places", 0, x.placeCount());
        CHECKS.due("1: links", 0, x.linkCount());
        CHECKS.due("1: parcels", 0, x.parcelCount());
        CHECKS.due("1: hour", 0, x.hour());
        CHECKS.due("1: posted", 0, x.postedTotal());
        CHECKS.due("1: delivered", 0, x.deliveredTotal());
        CHECKS.due("1: taken back", 0, x.takenBackTotal());
        CHECKS.due("1: used stamps", 0, x.usedStamps());
        CHECKS.due("1: undoable", 0, x.undoableCount());
        CHECKS.due("1: consistent", true, x.isConsistent());
        CHECKS.due("1: another object is not touched", 0, Scenes.places(3).linkCount() + x.placeCount());
    }

    private static void places() {
        RiverParcelService x = new RiverParcelService();
        for (int i = 0; i < 9; i++) {
            CHECKS.due("2: addPlace", i, x.addPlace());
            CHECKS.due("13: placeCount", i + 1, x.placeCount());
        }
        CHECKS.refused("2: a tenth place", STATE, x::addPlace);
        CHECKS.due("2: still 9 places", 9, x.placeCount());
        CHECKS.due("58: 8 changes are kept", 8, x.undoableCount());
    }

    private static void links() {
        RiverParcelService x = Scenes.places(3);
        CHECKS.due("3: addLink", 0, x.addLink(0, 2, 1, 0));
        CHECKS.due("3: a second link between them", 1, x.addLink(0, 2, 9, 5));
        CHECKS.due("3: a link back", 2, x.addLink(2, 0, 4, 3));
        CHECKS.due("14: linkCount", 3, x.linkCount());
        CHECKS.due("15: linkFrom", 2, x.linkFrom(2));
        CHECKS.due("16: linkTo", 0, x.linkTo(2));
        CHECKS.due("15: linkFrom of another one", 0, x.linkFrom(1));
        CHECKS.due("16: linkTo of another one", 2, x.linkTo(1));
        CHECKS.due("17: travelTime", 9, x.travelTime(1));
        CHECKS.due("17: travelTime of another one", 1, x.travelTime(0));
    }

    private static void wrongLinks() {
        RiverParcelService x = Scenes.places(2);
        int[] badPlaces = {-1, 2, Integer.MIN_VALUE, Integer.MAX_VALUE};
        for (int bad : badPlaces) {
            CHECKS.refused("3: from " + bad, INDEX, () -> x.addLink(bad, 1, 1, 0));
            CHECKS.refused("3: to " + bad, INDEX, () -> x.addLink(0, bad, 1, 0));
            CHECKS.refused("3: the place comes first " + bad, INDEX, () -> x.addLink(bad, bad, 0, 9));
        }
        int[][] bad = {{0, 0, 1, 0}, {0, 1, 0, 0}, {0, 1, 10, 0}, {0, 1, -1, 0}, {0, 1, 1, -1}, {0, 1, 1, 6}};
        for (int[] a : bad) {
            CHECKS.refused("3: bad arguments", ARGUMENT, () -> x.addLink(a[0], a[1], a[2], a[3]));
        }
        CHECKS.due("3: no link was added", 0, x.linkCount());
        CHECKS.due("3: a refused call is no change", 2, x.undoableCount());
    }

    private static void twentyLinks() {
        RiverParcelService x = Scenes.places(2);
        for (int i = 0; i < 20; i++) {
            CHECKS.due("3: link", i, x.addLink(i % 2, 1 - i % 2, 1 + i % 9, i % 6));
        }
        CHECKS.refused("3: a 21st link", STATE, () -> x.addLink(0, 1, 1, 0));
        CHECKS.refused("3: arguments come first", ARGUMENT, () -> x.addLink(0, 1, 10, 0));
        CHECKS.refused("3: places come first", INDEX, () -> x.addLink(0, 2, 10, 0));
        CHECKS.due("3: still 20 links", 20, x.linkCount());
        CHECKS.due("4: the last link can be blocked", 1, x.block(19));
    }

    private static void blocking() {
        RiverParcelService x = Scenes.places(2);
        x.addLink(0, 1, 1, 0);
        x.addLink(0, 1, 2, 0);
        CHECKS.due("18: not blocked", false, x.isBlocked(1));
        CHECKS.refused("5: not blocked", STATE, () -> x.open(1));
        CHECKS.due("4: block", 1, x.block(1));
        CHECKS.due("18: blocked", true, x.isBlocked(1));
        CHECKS.due("18: the other one is not", false, x.isBlocked(0));
        CHECKS.refused("4: blocked", STATE, () -> x.block(1));
        CHECKS.due("4: block the other one", 2, x.block(0));
        CHECKS.due("5: open", 1, x.open(1));
        CHECKS.due("18: open again", false, x.isBlocked(1));
        CHECKS.due("5: open the other one", 0, x.open(0));
        int[] badLinks = {-1, 2, Integer.MIN_VALUE, Integer.MAX_VALUE};
        for (int bad : badLinks) {
            CHECKS.refused("4: link " + bad, INDEX, () -> x.block(bad));
            CHECKS.refused("5: link " + bad, INDEX, () -> x.open(bad));
        }
        blockingUnderParcels();
    }

    private static void blockingUnderParcels() {
        RiverParcelService x = Scenes.places(2);
        x.addLink(0, 1, 3, 5);
        x.post(0, 1, 4, 1);
        x.send(0, 0);
        x.block(0);
        CHECKS.due("4: it goes on travelling", true, x.isTravelling(0));
        CHECKS.due("4: its weight stays", 4, x.loadOf(0));
        CHECKS.due("4: its forecast stays", 3, x.forecast(0));
        CHECKS.due("4: it arrives", 1, x.pass(3));
    }

    private static void linkQuestions() {
        RiverParcelService x = Scenes.places(2);
        x.addLink(0, 1, 1, 0);
        int[] badLinks = {-1, 1, 20, Integer.MIN_VALUE, Integer.MAX_VALUE};
        for (int bad : badLinks) {
            CHECKS.refused("15: link " + bad, INDEX, () -> x.linkFrom(bad));
            CHECKS.refused("16: link " + bad, INDEX, () -> x.linkTo(bad));
            CHECKS.refused("17: link " + bad, INDEX, () -> x.travelTime(bad));
            CHECKS.refused("18: link " + bad, INDEX, () -> x.isBlocked(bad));
            CHECKS.refused("19: link " + bad, INDEX, () -> x.isOpenAt(bad, 0));
            CHECKS.refused("19: the link comes first " + bad, INDEX, () -> x.isOpenAt(bad, -1));
            CHECKS.refused("20: link " + bad, INDEX, () -> x.loadOf(bad));
            CHECKS.refused("52: link " + bad, INDEX, () -> x.formatLink(bad));
        }
    }

    private static void openHours() {
        RiverParcelService x = Scenes.places(2);
        for (int phase = 0; phase < 6; phase++) {
            x.addLink(0, 1, 1, phase);
        }
        for (int phase = 0; phase < 6; phase++) {
            for (int hour = 0; hour < 14; hour++) {
                CHECKS.due("19: phase " + phase + " hour " + hour, hour % 6 != phase, x.isOpenAt(phase, hour));
            }
        }
        CHECKS.due("19: hour 9999 is closed for phase 3", false, x.isOpenAt(3, 9999));
        CHECKS.due("19: hour 9999 is open for phase 2", true, x.isOpenAt(2, 9999));
        int[] badHours = {-1, 10000, Integer.MIN_VALUE, Integer.MAX_VALUE};
        for (int bad : badHours) {
            CHECKS.refused("19: hour " + bad, ARGUMENT, () -> x.isOpenAt(0, bad));
        }
        x.block(2);
        CHECKS.due("19: blocked at an open hour", false, x.isOpenAt(2, 1));
        x.open(2);
        CHECKS.due("19: no longer blocked", true, x.isOpenAt(2, 1));
    }

    private static void degrees() {
        RiverParcelService x = Scenes.places(4);
        x.addLink(0, 1, 1, 0);
        x.addLink(1, 0, 1, 0);
        x.addLink(1, 2, 1, 0);
        x.addLink(1, 2, 1, 0);
        x.block(3);
        CHECKS.due("22: degree of 0", 2, x.degree(0));
        CHECKS.due("22: degree of 1", 4, x.degree(1));
        CHECKS.due("22: degree of 2", 2, x.degree(2));
        CHECKS.due("22: degree of 3", 0, x.degree(3));
        CHECKS.refused("22: place -1", INDEX, () -> x.degree(-1));
        CHECKS.refused("22: place 4", INDEX, () -> x.degree(4));
    }

    private static void shares() {
        RiverParcelService x = Scenes.places(2);
        CHECKS.refused("49: no links", ArithmeticException.class, x::blockedShare);
        x.addLink(0, 1, 1, 0);
        CHECKS.due("49: none blocked", 0.0f, x.blockedShare());
        x.addLink(0, 1, 1, 0);
        x.addLink(0, 1, 1, 0);
        x.block(1);
        CHECKS.due("49: one of three", 1.0f / 3.0f, x.blockedShare());
        x.block(0);
        x.block(2);
        CHECKS.due("49: all", 1.0f, x.blockedShare());
    }

    private static void formattedLinks() {
        RiverParcelService x = Scenes.places(5);
        for (int i = 0; i < 3; i++) {
            x.addLink(1, 0, 1, 0);
        }
        x.addLink(0, 4, 5, 2);
        x.post(0, 4, 7, 1);
        CHECKS.due("52: length", 11, x.formatLink(3));
        CHECKS.due("52: no weight", "3(0-4) 5h/2", Scenes.line(x));
        x.send(0, 3);
        CHECKS.due("52: the document's example", 14, x.formatLink(3));
        CHECKS.due("52: weight", "3(0-4) 5h/2 w7", Scenes.line(x));
        x.block(3);
        x.formatLink(3);
        CHECKS.due("52: blocked and weight", "3(0-4) 5h/2 x w7", Scenes.line(x));
        x.block(0);
        x.formatLink(0);
        CHECKS.due("52: blocked, a shorter line", "0(1-0) 1h/0 x", Scenes.line(x));
        for (int i = 4; i < 20; i++) {
            x.addLink(2, 3, 9, 5);
        }
        x.formatLink(19);
        CHECKS.due("52: two digits", "19(2-3) 9h/5", Scenes.line(x));
        CHECKS.refused("52: no such link", INDEX, () -> x.formatLink(20));
        CHECKS.due("52: the line stays", "19(2-3) 9h/5", Scenes.line(x));
    }

    private static void hours() {
        RiverParcelService x = new RiverParcelService();
        CHECKS.due("11: pass", 0, x.pass(1));
        CHECKS.due("12: hour", 1, x.hour());
        CHECKS.due("11: the most hours", 0, x.pass(120));
        CHECKS.due("12: hour afterwards", 121, x.hour());
        int[] badHours = {0, -1, 121, Integer.MIN_VALUE, Integer.MAX_VALUE};
        for (int bad : badHours) {
            CHECKS.refused("11: hours " + bad, ARGUMENT, () -> x.pass(bad));
        }
        CHECKS.due("12: the hour stays", 121, x.hour());
        CHECKS.due("58: two changes", 2, x.undoableCount());
    }
}
