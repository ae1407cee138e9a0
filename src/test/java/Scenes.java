/** Small services with which tests begin. */
final class Scenes {
    private Scenes() {
    }

    static RiverParcelService places(int count) {
        RiverParcelService x = new RiverParcelService();
        for (int i = 0; i < count; i++) {
            x.addPlace();
        }
        return x;
    }

    /** Links of 1 hour from place 0 to place 1, and a parcel with id 0 that waits to go there. */
    static RiverParcelService links(int count) {
        RiverParcelService x = places(2);
        for (int i = 0; i < count; i++) {
            x.addLink(0, 1, 1, 5);
        }
        x.post(0, 1, 1, 1);
        return x;
    }

    /** One link of 2 hours from place 0 to place 1, and light parcels that wait to go there. */
    static RiverParcelService parcels(int count) {
        RiverParcelService x = places(2);
        x.addLink(0, 1, 2, 5);
        for (int i = 0; i < count; i++) {
            x.post(0, 1, 1, 1);
        }
        return x;
    }

    /** Of the ids up to 4, only 2 waits and only 3 travels; 4 is the next free one. */
    static RiverParcelService mixed() {
        RiverParcelService x = places(2);
        x.addLink(0, 1, 3, 5);
        x.addLink(0, 1, 1, 5);
        for (int i = 0; i < 4; i++) {
            x.post(0, 1, 1, 2);
        }
        x.takeBack(0);
        x.send(1, 1);
        x.pass(1);
        x.send(3, 0);
        x.post(0, 1, 1, 1);
        x.undo();
        return x;
    }

    /** Three places in a row: from 0 to 1 in 2 hours, from 1 to 2 in 3, both closed at hour 5. */
    static RiverParcelService river() {
        RiverParcelService x = places(3);
        x.addLink(0, 1, 2, 5);
        x.addLink(1, 2, 3, 5);
        return x;
    }

    static void type(RiverParcelService x, String text) {
        for (int i = 0; i < text.length(); i++) {
            x.append(text.charAt(i));
        }
    }

    static int run(RiverParcelService x, String text) {
        type(x, text);
        return x.run();
    }

    /** The line as lineChar tells it, up to the first index that is refused. */
    static String line(RiverParcelService x) {
        StringBuilder text = new StringBuilder();
        for (int i = 0; i < 40; i++) {
            try {
                text.append(x.lineChar(i));
            } catch (IndexOutOfBoundsException end) {
                return text.toString();
            }
        }
        return text.toString();
    }
}
