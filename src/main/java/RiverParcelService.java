import java.util.NoSuchElementException;

/** A parcel service on a river network, as ../shared/DOC.md describes it. */
public final class RiverParcelService {
    private static final int MOST_PLACES = 9;
    private static final int MOST_LINKS = 20;
    private static final int MOST_PARCELS = 12;
    private static final int LONGEST_TRAVEL = 9;
    private static final int PHASES = 6;
    private static final int CAPACITY = 10;
    private static final int MOST_WEIGHT = 9;
    private static final int MOST_STAMPS = 20;
    private static final int MOST_HOURS_PASSED = 120;
    private static final int MOST_HOURS_TRIED = 60;
    private static final int LAST_ASKED_HOUR = 9999;
    private static final int MOST_CHARACTERS = 60;
    private static final int MOST_CHANGES = 8;

    // The shortest command has 5 characters and a semicolon behind it, so 60 characters hold 10.
    private static final int MOST_COMMANDS = 10;
    private static final int MOST_ARGUMENTS = 4;
    private static final int MOST_DIGITS = 3;

    // An earliest way visits each place once: 8 links, each of at most 9 hours and a closed hour.
    private static final int LONGEST_WAY = 80;

    private static final int NONE = -1;
    private static final int NEVER = 2147483647;

    // Why a call is refused; the face throws what belongs to it, and a program just stops.
    private static final int FINE = 0;
    private static final int NO_INDEX = 1;
    private static final int BAD_ARGUMENT = 2;
    private static final int BAD_STATE = 3;
    private static final int NO_ELEMENT = 4;

    private static final int PLACE = 0;
    private static final int LINK = 1;
    private static final int BLOCK = 2;
    private static final int OPEN = 3;
    private static final int POST = 4;
    private static final int SEND = 5;
    private static final int STAMP = 6;
    private static final int RETURN = 7;
    private static final int DISPATCH = 8;
    private static final int HOURS = 9;
    private static final int ONE_HOUR = 10;
    private static final int KINDS = 11;

    private final Service now;
    // Programs and tries run on this copy, so that the service itself needs no repair after them.
    private final Service trial;
    private final Service saved;
    private boolean hasSaved;
    private final Ways ways;
    private final History history;
    private final Program program;
    private final int[] forecasts;
    private final StringBuilder line;
    private int errorPosition;
    private int failedCommand;

    public RiverParcelService() {
        ways = new Ways();
        now = new Service(ways);
        trial = new Service(ways);
        saved = new Service(ways);
        hasSaved = false;
        history = new History(ways);
        program = new Program();
        forecasts = new int[MOST_PARCELS];
        line = new StringBuilder();
        errorPosition = NONE;
        failedCommand = NONE;
    }

    public int addPlace() throws IllegalStateException {
        return change(PLACE, 0, 0, 0, 0);
    }

    public int addLink(int from, int to, int hours, int phase)
            throws IndexOutOfBoundsException, IllegalArgumentException, IllegalStateException {
        return change(LINK, from, to, hours, phase);
    }

    public int block(int link) throws IndexOutOfBoundsException, IllegalStateException {
        return change(BLOCK, link, 0, 0, 0);
    }

    public int open(int link) throws IndexOutOfBoundsException, IllegalStateException {
        return change(OPEN, link, 0, 0, 0);
    }

    public int post(int from, int to, int weight, int stamps)
            throws IndexOutOfBoundsException, IllegalArgumentException, IllegalStateException {
        return change(POST, from, to, weight, stamps);
    }

    public int send(int id, int link)
            throws NoSuchElementException, IndexOutOfBoundsException, IllegalStateException {
        return change(SEND, id, link, 0, 0);
    }

    public int addStamps(int id, int stamps)
            throws NoSuchElementException, IllegalArgumentException, IllegalStateException {
        return change(STAMP, id, stamps, 0, 0);
    }

    public int takeBack(int id) throws NoSuchElementException, IllegalStateException {
        return change(RETURN, id, 0, 0, 0);
    }

    public int dispatch() {
        return change(DISPATCH, 0, 0, 0, 0);
    }

    public int pass(int hours) throws IllegalArgumentException {
        return change(HOURS, hours, 0, 0, 0);
    }

    public int hour() {
        return now.hour;
    }

    public int placeCount() {
        return now.network.places;
    }

    public int linkCount() {
        return now.network.count;
    }

    public int linkFrom(int link) throws IndexOutOfBoundsException {
        return existingLink(link).from;
    }

    public int linkTo(int link) throws IndexOutOfBoundsException {
        return existingLink(link).to;
    }

    public int travelTime(int link) throws IndexOutOfBoundsException {
        return existingLink(link).hours;
    }

    public boolean isBlocked(int link) throws IndexOutOfBoundsException {
        return existingLink(link).blocked;
    }

    public boolean isOpenAt(int link, int hour) throws IndexOutOfBoundsException, IllegalArgumentException {
        Link asked = existingLink(link);
        requireAskedHour(hour);
        return asked.canLeaveAt(hour);
    }

    public int loadOf(int link) throws IndexOutOfBoundsException {
        requireIndex(link, now.network.count);
        return now.weightOn(link);
    }

    public int busiestLink() throws NoSuchElementException {
        if (now.network.count == 0) {
            throw new NoSuchElementException("there are no links");
        }
        return now.heaviestLink();
    }

    public int degree(int place) throws IndexOutOfBoundsException {
        requireIndex(place, now.network.places);
        return now.network.linksAt(place);
    }

    public int parcelCount() {
        return now.count;
    }

    public int idAt(int position) throws IndexOutOfBoundsException {
        requireIndex(position, now.count);
        return now.parcels[position].id;
    }

    public boolean isTravelling(int id) throws NoSuchElementException {
        return existingParcel(id).isUnderWay();
    }

    public int placeOf(int id) throws NoSuchElementException {
        return waitingParcel(id).place;
    }

    public int linkOf(int id) throws NoSuchElementException {
        return travellingParcel(id).link;
    }

    public int arrivalOf(int id) throws NoSuchElementException {
        return travellingParcel(id).arrival;
    }

    public int destinationOf(int id) throws NoSuchElementException {
        return existingParcel(id).destination;
    }

    public int weightOf(int id) throws NoSuchElementException {
        return existingParcel(id).weight;
    }

    public int stampsOf(int id) throws NoSuchElementException {
        return existingParcel(id).stamps;
    }

    public int waitingIn(int place) throws IndexOutOfBoundsException {
        requireIndex(place, now.network.places);
        return now.parcelsWaitingIn(place);
    }

    public int earliestArrival(int from, int to, int hour)
            throws IndexOutOfBoundsException, IllegalArgumentException, NoSuchElementException {
        requireIndex(from, now.network.places);
        requireIndex(to, now.network.places);
        requireAskedHour(hour);
        return existingHour(ways.arrivalBySettling(now.network, from, to, hour));
    }

    public int earliestArrivalByHours(int from, int to, int hour)
            throws IndexOutOfBoundsException, IllegalArgumentException, NoSuchElementException {
        requireIndex(from, now.network.places);
        requireIndex(to, now.network.places);
        requireAskedHour(hour);
        return existingHour(ways.arrivalHourByHour(now.network, from, to, hour));
    }

    public int fewestLinks(int from, int to) throws IndexOutOfBoundsException, NoSuchElementException {
        requireIndex(from, now.network.places);
        requireIndex(to, now.network.places);
        return existingSteps(ways.stepsBetween(now.network, from, to));
    }

    public int reachable(int from) throws IndexOutOfBoundsException {
        requireIndex(from, now.network.places);
        return ways.spreadFrom(now.network, from);
    }

    public int forecast(int id) throws NoSuchElementException {
        return existingHour(now.forecastOf(existingParcel(id)));
    }

    public int nextLink(int id) throws NoSuchElementException {
        int link = now.nextLinkOf(waitingParcel(id));
        if (link == NONE) {
            throw new NoSuchElementException("the parcel has no next link");
        }
        return link;
    }

    public boolean canSend(int id, int link) throws NoSuchElementException, IndexOutOfBoundsException {
        int refusal = now.refusalOf(SEND, id, link, 0, 0);
        if (refusal == BAD_STATE) {
            return false;
        }
        throwFor(refusal);
        return true;
    }

    public int stampsMissing(int id) throws NoSuchElementException {
        Parcel parcel = existingParcel(id);
        int steps = existingSteps(ways.stepsBetween(now.network, parcel.place, parcel.destination));
        return Math.max(0, steps - parcel.stamps);
    }

    public int parcelByForecast(int rank) throws NoSuchElementException {
        if (rank < 0 || rank >= now.count) {
            throw new NoSuchElementException("there is no such rank");
        }
        for (int i = 0; i < now.count; i++) {
            forecasts[i] = now.forecastOf(now.parcels[i]);
        }
        return now.parcels[positionOfRank(rank)].id;
    }

    public int arrivalsWithin(int hours) throws IllegalArgumentException {
        requireBetween(hours, 1, MOST_HOURS_PASSED);
        return now.parcelsArrivingWithin(hours);
    }

    public int deliveredIf(int hours) throws IllegalArgumentException {
        requireBetween(hours, 1, MOST_HOURS_TRIED);
        trial.copyFrom(now);
        int sum = 0;
        for (int i = 0; i < hours; i++) {
            trial.sendAllReady();
            sum += trial.letHourPass();
        }
        return sum;
    }

    public int postedTotal() {
        return now.posted;
    }

    public int deliveredTotal() {
        return now.delivered;
    }

    public int takenBackTotal() {
        return now.takenBack;
    }

    public int usedStamps() {
        return now.stampsUsedUp;
    }

    public double meanStamps() throws ArithmeticException {
        if (now.count == 0) {
            throw new ArithmeticException("no parcels are in the service");
        }
        return (double) now.sumOfStamps() / now.count;
    }

    public float blockedShare() throws ArithmeticException {
        if (now.network.count == 0) {
            throw new ArithmeticException("there are no links");
        }
        return (float) now.network.blockedLinks() / now.network.count;
    }

    public boolean isConsistent() {
        return bothArrivalsAgree()
                && now.noLinkIsOverloaded()
                && now.posted == now.count + now.delivered + now.takenBack;
    }

    public int formatParcel(int id) throws NoSuchElementException {
        Parcel parcel = existingParcel(id);
        line.setLength(0);
        parcel.writeTo(line);
        return line.length();
    }

    public int formatLink(int link) throws IndexOutOfBoundsException {
        Link written = existingLink(link);
        line.setLength(0);
        line.append(link);
        written.writeTo(line, now.weightOn(link));
        return line.length();
    }

    public char lineChar(int index) throws IndexOutOfBoundsException {
        requireIndex(index, line.length());
        return line.charAt(index);
    }

    public int append(char character) throws IllegalArgumentException, IllegalStateException {
        if (character < ' ' || character > '~') {
            throw new IllegalArgumentException("the character is not in the range from ' ' to '~'");
        }
        if (program.length >= MOST_CHARACTERS) {
            throw new IllegalStateException("the input buffer is full");
        }
        return program.take(character);
    }

    public int run() throws IllegalArgumentException, IllegalStateException {
        boolean wellFormed = program.parse();
        program.length = 0;
        if (!wellFormed) {
            errorPosition = program.furthest;
            throw new IllegalArgumentException("the program is malformed");
        }
        trial.copyFrom(now);
        int executed = program.executeOn(trial);
        if (executed < program.count) {
            failedCommand = executed;
            throw new IllegalStateException("a command failed");
        }
        history.keep(now);
        now.copyFrom(trial);
        return executed;
    }

    public int errorPosition() throws NoSuchElementException {
        if (errorPosition == NONE) {
            throw new NoSuchElementException("no program was malformed so far");
        }
        return errorPosition;
    }

    public int failedCommand() throws NoSuchElementException {
        if (failedCommand == NONE) {
            throw new NoSuchElementException("no command failed so far");
        }
        return failedCommand;
    }

    public int undoableCount() {
        return history.count;
    }

    public int undo() throws IllegalStateException {
        if (history.count == 0) {
            throw new IllegalStateException("no change can be undone");
        }
        history.bringBackTo(now);
        return history.count;
    }

    public int save() {
        saved.copyFrom(now);
        hasSaved = true;
        return now.network.places;
    }

    public int restore() throws IllegalStateException {
        if (!hasSaved) {
            throw new IllegalStateException("there is no saved copy");
        }
        now.copyFrom(saved);
        history.forget();
        return now.network.places;
    }

    private int change(int kind, int a, int b, int c, int d) {
        throwFor(now.refusalOf(kind, a, b, c, d));
        history.keep(now);
        return now.carryOut(kind, a, b, c, d);
    }

    private static void throwFor(int refusal) {
        switch (refusal) {
            case NO_INDEX:
                throw new IndexOutOfBoundsException("there is no such place or link");
            case BAD_ARGUMENT:
                throw new IllegalArgumentException("an argument is out of range");
            case BAD_STATE:
                throw new IllegalStateException("the service does not allow it now");
            case NO_ELEMENT:
                throw new NoSuchElementException("there is no such parcel");
            default:
                break;
        }
    }

    private static void requireIndex(int index, int count) {
        if (index < 0 || index >= count) {
            throw new IndexOutOfBoundsException("there is no such number");
        }
    }

    private static void requireBetween(int number, int least, int most) {
        if (number < least || number > most) {
            throw new IllegalArgumentException("the number is out of range");
        }
    }

    private static void requireAskedHour(int hour) {
        requireBetween(hour, 0, LAST_ASKED_HOUR);
    }

    private static int existingHour(int hour) {
        if (hour == NEVER) {
            throw new NoSuchElementException("the place cannot be reached");
        }
        return hour;
    }

    private static int existingSteps(int steps) {
        if (steps == NONE) {
            throw new NoSuchElementException("the place cannot be reached");
        }
        return steps;
    }

    private Link existingLink(int link) {
        requireIndex(link, now.network.count);
        return now.network.links[link];
    }

    private Parcel existingParcel(int id) {
        Parcel parcel = now.find(id);
        if (parcel == null) {
            throw new NoSuchElementException("there is no such parcel");
        }
        return parcel;
    }

    private Parcel waitingParcel(int id) {
        Parcel parcel = existingParcel(id);
        if (parcel.isUnderWay()) {
            throw new NoSuchElementException("the parcel is travelling");
        }
        return parcel;
    }

    private Parcel travellingParcel(int id) {
        Parcel parcel = existingParcel(id);
        if (!parcel.isUnderWay()) {
            throw new NoSuchElementException("the parcel is waiting");
        }
        return parcel;
    }

    private int positionOfRank(int rank) {
        for (int i = 0; i < now.count; i++) {
            if (parcelsAhead(i) == rank) {
                return i;
            }
        }
        return 0;
    }

    // NEVER is greater than every forecast, so parcels without one come last by themselves.
    private int parcelsAhead(int position) {
        int ahead = 0;
        for (int i = 0; i < now.count; i++) {
            boolean sameButEarlier = forecasts[i] == forecasts[position] && i < position;
            if (forecasts[i] < forecasts[position] || sameButEarlier) {
                ahead++;
            }
        }
        return ahead;
    }

    private boolean bothArrivalsAgree() {
        for (int from = 0; from < now.network.places; from++) {
            for (int to = 0; to < now.network.places; to++) {
                int settled = ways.arrivalBySettling(now.network, from, to, now.hour);
                if (settled != ways.arrivalHourByHour(now.network, from, to, now.hour)) {
                    return false;
                }
            }
        }
        return true;
    }

    private static final class Link {
        int from;
        int to;
        int hours;
        int phase;
        boolean blocked;

        void copyFrom(Link other) {
            from = other.from;
            to = other.to;
            hours = other.hours;
            phase = other.phase;
            blocked = other.blocked;
        }

        boolean canLeaveAt(int hour) {
            return !blocked && hour % PHASES != phase;
        }

        int arrivalWhenReadyAt(int hour) {
            int waited = hour % PHASES == phase ? 1 : 0;
            return hour + waited + hours;
        }

        void writeTo(StringBuilder text, int weight) {
            text.append('(').append(from).append('-').append(to).append(") ");
            text.append(hours).append("h/").append(phase);
            if (blocked) {
                text.append(" x");
            }
            if (weight > 0) {
                text.append(" w").append(weight);
            }
        }
    }

    private static final class Network {
        final Link[] links;
        int places;
        int count;

        Network() {
            links = new Link[MOST_LINKS];
            for (int i = 0; i < MOST_LINKS; i++) {
                links[i] = new Link();
            }
        }

        void copyFrom(Network other) {
            places = other.places;
            count = other.count;
            for (int i = 0; i < count; i++) {
                links[i].copyFrom(other.links[i]);
            }
        }

        boolean hasPlace(int place) {
            return place >= 0 && place < places;
        }

        boolean hasLink(int link) {
            return link >= 0 && link < count;
        }

        int putPlace() {
            places++;
            return places - 1;
        }

        int putLink(int from, int to, int hours, int phase) {
            if (count >= MOST_LINKS) {
                return NONE;
            }
            Link added = links[count];
            added.from = from;
            added.to = to;
            added.hours = hours;
            added.phase = phase;
            added.blocked = false;
            count++;
            return count - 1;
        }

        int setBlocked(int link, boolean blocked) {
            if (hasLink(link)) {
                links[link].blocked = blocked;
            }
            return blockedLinks();
        }

        int blockedLinks() {
            int sum = 0;
            for (int i = 0; i < count; i++) {
                if (links[i].blocked) {
                    sum++;
                }
            }
            return sum;
        }

        int linksAt(int place) {
            int sum = 0;
            for (int i = 0; i < count; i++) {
                if (links[i].from == place || links[i].to == place) {
                    sum++;
                }
            }
            return sum;
        }
    }

    /** Finds ways through a network; its rows are made once and used for every question. */
    private static final class Ways {
        private final int[] arrivals;
        private final boolean[] settled;
        private final int[] steps;

        Ways() {
            arrivals = new int[MOST_PLACES];
            settled = new boolean[MOST_PLACES];
            steps = new int[MOST_PLACES];
        }

        int arrivalBySettling(Network network, int from, int to, int hour) {
            startIn(from, hour);
            for (int round = 0; round < network.places; round++) {
                int place = earliestUnsettled(network);
                if (place == NONE || place == to) {
                    break;
                }
                settled[place] = true;
                leavePlace(network, place);
            }
            return arrivals[to];
        }

        int arrivalHourByHour(Network network, int from, int to, int hour) {
            startIn(from, hour);
            for (int passed = 0; passed <= LONGEST_WAY; passed++) {
                if (arrivals[to] == hour + passed) {
                    return arrivals[to];
                }
                leaveAllAt(network, hour + passed);
            }
            return NEVER;
        }

        int stepsBetween(Network network, int from, int to) {
            spreadFrom(network, from);
            return steps[to];
        }

        int spreadFrom(Network network, int from) {
            for (int i = 0; i < MOST_PLACES; i++) {
                steps[i] = NONE;
            }
            steps[from] = 0;
            int reached = 1;
            for (int step = 1; step < network.places; step++) {
                reached += placesFirstReachedIn(network, step);
            }
            return reached;
        }

        private void startIn(int from, int hour) {
            for (int i = 0; i < MOST_PLACES; i++) {
                arrivals[i] = NEVER;
                settled[i] = false;
            }
            arrivals[from] = hour;
        }

        private int earliestUnsettled(Network network) {
            int best = NONE;
            int bestHour = NEVER;
            for (int i = 0; i < network.places; i++) {
                if (!settled[i] && arrivals[i] < bestHour) {
                    best = i;
                    bestHour = arrivals[i];
                }
            }
            return best;
        }

        private void leavePlace(Network network, int place) {
            for (int i = 0; i < network.count; i++) {
                Link link = network.links[i];
                if (link.from == place && !link.blocked) {
                    int arrival = link.arrivalWhenReadyAt(arrivals[place]);
                    arrivals[link.to] = Math.min(arrivals[link.to], arrival);
                }
            }
        }

        private void leaveAllAt(Network network, int hour) {
            for (int i = 0; i < network.count; i++) {
                Link link = network.links[i];
                if (arrivals[link.from] <= hour && link.canLeaveAt(hour)) {
                    arrivals[link.to] = Math.min(arrivals[link.to], hour + link.hours);
                }
            }
        }

        private int placesFirstReachedIn(Network network, int step) {
            int found = 0;
            for (int i = 0; i < network.count; i++) {
                Link link = network.links[i];
                if (!link.blocked && steps[link.from] == step - 1 && steps[link.to] == NONE) {
                    steps[link.to] = step;
                    found++;
                }
            }
            return found;
        }
    }

    private static final class Parcel {
        int id;
        int weight;
        int stamps;
        int destination;
        // Where it waits or, while it travels, where its link ends: every forecast begins there.
        int place;
        int link;
        int arrival;

        void copyFrom(Parcel other) {
            id = other.id;
            weight = other.weight;
            stamps = other.stamps;
            destination = other.destination;
            place = other.place;
            link = other.link;
            arrival = other.arrival;
        }

        boolean isUnderWay() {
            return link != NONE;
        }

        void writeTo(StringBuilder text) {
            text.append('#').append(id).append(' ').append(weight).append('*').append(stamps);
            if (isUnderWay()) {
                text.append(" ~").append(link).append(':').append(arrival);
            } else {
                text.append(" @").append(place);
            }
            text.append(" >").append(destination);
        }
    }

    /** Everything that changes can change. */
    private static final class Service {
        final Ways ways;
        final Network network;
        // The first ones are those in the service, in the order of their ids; the others are spare.
        final Parcel[] parcels;
        int count;
        int hour;
        // Also the next free id, because ids are given from 0 without gaps.
        int posted;
        int delivered;
        int takenBack;
        int stampsUsedUp;

        Service(Ways ways) {
            this.ways = ways;
            network = new Network();
            parcels = new Parcel[MOST_PARCELS];
            for (int i = 0; i < MOST_PARCELS; i++) {
                parcels[i] = new Parcel();
            }
        }

        void copyFrom(Service other) {
            network.copyFrom(other.network);
            count = other.count;
            for (int i = 0; i < count; i++) {
                parcels[i].copyFrom(other.parcels[i]);
            }
            hour = other.hour;
            posted = other.posted;
            delivered = other.delivered;
            takenBack = other.takenBack;
            stampsUsedUp = other.stampsUsedUp;
        }

        int refusalOf(int kind, int a, int b, int c, int d) {
            switch (kind) {
                case PLACE:
                    return network.places >= MOST_PLACES ? BAD_STATE : FINE;
                case LINK:
                    return refusalOfNewLink(a, b, c, d);
                case BLOCK:
                    return refusalOfBlocking(a, true);
                case OPEN:
                    return refusalOfBlocking(a, false);
                case POST:
                    return refusalOfNewParcel(a, b, c, d);
                case SEND:
                    return refusalOfSending(a, b);
                case STAMP:
                    return refusalOfStamps(a, b);
                case RETURN:
                    return refusalOfReturn(a);
                case HOURS:
                    return isBetween(a, 1, MOST_HOURS_PASSED) ? FINE : BAD_ARGUMENT;
                default:
                    return FINE;
            }
        }

        int carryOut(int kind, int a, int b, int c, int d) {
            switch (kind) {
                case PLACE:
                    return network.putPlace();
                case LINK:
                    return network.putLink(a, b, c, d);
                case BLOCK:
                    return network.setBlocked(a, true);
                case OPEN:
                    return network.setBlocked(a, false);
                case POST:
                    return putParcel(a, b, c, d);
                case SEND:
                    return sendOver(find(a), b);
                case STAMP:
                    return putStamps(find(a), b);
                case RETURN:
                    return giveBack(a);
                case DISPATCH:
                    return sendAllReady();
                case HOURS:
                    return letHoursPass(a);
                default:
                    return letHourPass();
            }
        }

        Parcel find(int id) {
            int position = positionOf(id);
            return position == NONE ? null : parcels[position];
        }

        int weightOn(int link) {
            int sum = 0;
            for (int i = 0; i < count; i++) {
                if (parcels[i].link == link) {
                    sum += parcels[i].weight;
                }
            }
            return sum;
        }

        int heaviestLink() {
            int best = 0;
            int bestWeight = 0;
            for (int i = 0; i < network.count; i++) {
                int weight = weightOn(i);
                if (weight > bestWeight) {
                    best = i;
                    bestWeight = weight;
                }
            }
            return best;
        }

        boolean noLinkIsOverloaded() {
            for (int i = 0; i < network.count; i++) {
                if (weightOn(i) > CAPACITY) {
                    return false;
                }
            }
            return true;
        }

        int parcelsWaitingIn(int place) {
            int sum = 0;
            for (int i = 0; i < count; i++) {
                if (!parcels[i].isUnderWay() && parcels[i].place == place) {
                    sum++;
                }
            }
            return sum;
        }

        int parcelsArrivingWithin(int hours) {
            int sum = 0;
            for (int i = 0; i < count; i++) {
                if (parcels[i].isUnderWay() && parcels[i].arrival <= hour + hours) {
                    sum++;
                }
            }
            return sum;
        }

        int sumOfStamps() {
            int sum = 0;
            for (int i = 0; i < count; i++) {
                sum += parcels[i].stamps;
            }
            return sum;
        }

        int forecastOf(Parcel parcel) {
            int ready = parcel.isUnderWay() ? parcel.arrival : hour;
            return ways.arrivalBySettling(network, parcel.place, parcel.destination, ready);
        }

        // A way may come back to where it began: where later links are closed, it can be as early.
        int nextLinkOf(Parcel waiting) {
            int goal = ways.arrivalBySettling(network, waiting.place, waiting.destination, hour);
            if (goal == NEVER) {
                return NONE;
            }
            for (int i = 0; i < network.count; i++) {
                Link link = network.links[i];
                int start = hour + link.hours;
                if (canStartOver(waiting, i)
                        && ways.arrivalBySettling(network, link.to, waiting.destination, start) == goal) {
                    return i;
                }
            }
            return NONE;
        }

        int sendAllReady() {
            int sent = 0;
            for (int i = 0; i < count; i++) {
                Parcel parcel = parcels[i];
                if (!parcel.isUnderWay() && parcel.stamps > 0) {
                    int link = nextLinkOf(parcel);
                    if (link != NONE && hasRoomFor(parcel, link)) {
                        sendOver(parcel, link);
                        sent++;
                    }
                }
            }
            return sent;
        }

        int letHourPass() {
            hour++;
            int position = 0;
            int before = delivered;
            for (int left = count; left > 0; left--) {
                Parcel parcel = parcels[position];
                if (parcel.isUnderWay() && parcel.arrival == hour) {
                    parcel.link = NONE;
                }
                if (parcel.isUnderWay() || parcel.place != parcel.destination) {
                    position++;
                } else {
                    removeAt(position);
                    delivered++;
                }
            }
            return delivered - before;
        }

        private static boolean isBetween(int number, int least, int most) {
            return number >= least && number <= most;
        }

        private int refusalOfNewLink(int from, int to, int hours, int phase) {
            if (!network.hasPlace(from) || !network.hasPlace(to)) {
                return NO_INDEX;
            }
            if (from == to || !isBetween(hours, 1, LONGEST_TRAVEL) || !isBetween(phase, 0, PHASES - 1)) {
                return BAD_ARGUMENT;
            }
            return network.count >= MOST_LINKS ? BAD_STATE : FINE;
        }

        private int refusalOfBlocking(int link, boolean blocked) {
            if (!network.hasLink(link)) {
                return NO_INDEX;
            }
            return network.links[link].blocked == blocked ? BAD_STATE : FINE;
        }

        private int refusalOfNewParcel(int from, int to, int weight, int stamps) {
            if (!network.hasPlace(from) || !network.hasPlace(to)) {
                return NO_INDEX;
            }
            if (from == to || !isBetween(weight, 1, MOST_WEIGHT) || !isBetween(stamps, 0, MOST_STAMPS)) {
                return BAD_ARGUMENT;
            }
            return count >= MOST_PARCELS ? BAD_STATE : FINE;
        }

        private int refusalOfSending(int id, int link) {
            Parcel parcel = find(id);
            if (parcel == null) {
                return NO_ELEMENT;
            }
            if (!network.hasLink(link)) {
                return NO_INDEX;
            }
            boolean allowed = !parcel.isUnderWay()
                    && parcel.stamps > 0
                    && canStartOver(parcel, link)
                    && hasRoomFor(parcel, link);
            return allowed ? FINE : BAD_STATE;
        }

        private int refusalOfStamps(int id, int stamps) {
            Parcel parcel = find(id);
            if (parcel == null) {
                return NO_ELEMENT;
            }
            if (!isBetween(stamps, 1, MOST_STAMPS)) {
                return BAD_ARGUMENT;
            }
            return parcel.stamps + stamps > MOST_STAMPS ? BAD_STATE : FINE;
        }

        private int refusalOfReturn(int id) {
            Parcel parcel = find(id);
            if (parcel == null) {
                return NO_ELEMENT;
            }
            return parcel.isUnderWay() ? BAD_STATE : FINE;
        }

        private boolean canStartOver(Parcel parcel, int link) {
            return network.links[link].from == parcel.place && network.links[link].canLeaveAt(hour);
        }

        private boolean hasRoomFor(Parcel parcel, int link) {
            return weightOn(link) + parcel.weight <= CAPACITY;
        }

        private int putParcel(int from, int to, int weight, int stamps) {
            if (count >= MOST_PARCELS) {
                return NONE;
            }
            Parcel added = parcels[count];
            added.id = posted;
            added.weight = weight;
            added.stamps = stamps;
            added.destination = to;
            added.place = from;
            added.link = NONE;
            added.arrival = NONE;
            count++;
            posted++;
            return added.id;
        }

        private int sendOver(Parcel parcel, int link) {
            if (parcel == null || !network.hasLink(link)) {
                return NONE;
            }
            parcel.stamps--;
            stampsUsedUp++;
            parcel.link = link;
            parcel.place = network.links[link].to;
            parcel.arrival = hour + network.links[link].hours;
            return parcel.arrival;
        }

        private static int putStamps(Parcel parcel, int stamps) {
            if (parcel == null) {
                return NONE;
            }
            parcel.stamps += stamps;
            return parcel.stamps;
        }

        private int giveBack(int id) {
            int position = positionOf(id);
            if (position == NONE) {
                return NONE;
            }
            int stamps = parcels[position].stamps;
            removeAt(position);
            takenBack++;
            return stamps;
        }

        private int letHoursPass(int hours) {
            int sum = 0;
            for (int i = 0; i < hours; i++) {
                sum += letHourPass();
            }
            return sum;
        }

        private int positionOf(int id) {
            for (int i = 0; i < count; i++) {
                if (parcels[i].id == id) {
                    return i;
                }
            }
            return NONE;
        }

        private void removeAt(int position) {
            Parcel removed = parcels[position];
            for (int i = position; i + 1 < count; i++) {
                parcels[i] = parcels[i + 1];
            }
            // It stays in the row behind the others, so that the next new parcel can use it again.
            parcels[count - 1] = removed;
            count--;
        }
    }

    /** The states before the latest changes; when the ring is full, the oldest one gives way. */
    private static final class History {
        private final Service[] states;
        private int oldest;
        int count;

        History(Ways ways) {
            states = new Service[MOST_CHANGES];
            for (int i = 0; i < MOST_CHANGES; i++) {
                states[i] = new Service(ways);
            }
        }

        void keep(Service state) {
            states[(oldest + count) % MOST_CHANGES].copyFrom(state);
            if (count < MOST_CHANGES) {
                count++;
            } else {
                oldest = (oldest + 1) % MOST_CHANGES;
            }
        }

        void bringBackTo(Service state) {
            if (count > 0) {
                count--;
                state.copyFrom(states[(oldest + count) % MOST_CHANGES]);
            }
        }

        void forget() {
            count = 0;
        }
    }

    /** The input buffer, and the commands that it held when it was parsed last. */
    private static final class Program {
        private final char[] input;
        int length;
        private final int[] kinds;
        private final int[][] arguments;
        int count;
        // How far any form of a command fits: in a malformed program, this is the error position.
        int furthest;

        Program() {
            input = new char[MOST_CHARACTERS];
            kinds = new int[MOST_COMMANDS];
            arguments = new int[MOST_COMMANDS][MOST_ARGUMENTS];
        }

        int take(char character) {
            if (length < MOST_CHARACTERS) {
                input[length] = character;
                length++;
            }
            return length;
        }

        boolean parse() {
            count = 0;
            furthest = 0;
            int start = 0;
            // Behind the last command that has room, a semicolon still asks for one more.
            for (int i = 0; i <= MOST_COMMANDS; i++) {
                int end = endOfCommand(start);
                if (end == NONE) {
                    return false;
                }
                if (end == length) {
                    return true;
                }
                start = end + 1;
            }
            return false;
        }

        int executeOn(Service service) {
            for (int i = 0; i < count; i++) {
                int[] given = arguments[i];
                if (service.refusalOf(kinds[i], given[0], given[1], given[2], given[3]) != FINE) {
                    return i;
                }
                service.carryOut(kinds[i], given[0], given[1], given[2], given[3]);
            }
            return count;
        }

        // A command must be followed by a semicolon or the end, so at most one form fits.
        private int endOfCommand(int start) {
            for (int kind = 0; kind < KINDS; kind++) {
                int end = endOfForm(formOf(kind), start);
                if (end != NONE) {
                    furthest = Math.max(furthest, end);
                    if (count < MOST_COMMANDS && (end == length || input[end] == ';')) {
                        kinds[count] = kind;
                        count++;
                        return end;
                    }
                }
            }
            return NONE;
        }

        // In a form, 9 stands for a digit and # for a number; other signs stand for themselves.
        private static String formOf(int kind) {
            switch (kind) {
                case PLACE:
                    return "place";
                case LINK:
                    return "link 99 9/9";
                case BLOCK:
                    return "block #";
                case OPEN:
                    return "open #";
                case POST:
                    return "post 99 9*#";
                case SEND:
                    return "send # #";
                case STAMP:
                    return "stamp # #";
                case RETURN:
                    return "return #";
                case DISPATCH:
                    return "dispatch";
                case HOURS:
                    return "hours #";
                default:
                    return "hours";
            }
        }

        private int endOfForm(String form, int start) {
            int at = start;
            int argument = 0;
            for (int i = 0; i < form.length(); i++) {
                char sign = form.charAt(i);
                int end;
                if (sign == '9' || sign == '#') {
                    end = endOfDigits(at, sign == '9' ? 1 : MOST_DIGITS);
                    storeArgument(argument, at, end);
                    argument++;
                } else {
                    end = at < length && input[at] == sign ? at + 1 : at;
                }
                if (end == at) {
                    furthest = Math.max(furthest, at);
                    return NONE;
                }
                at = end;
            }
            return at;
        }

        private int endOfDigits(int start, int most) {
            int at = start;
            for (int i = 0; i < most; i++) {
                if (at >= length || input[at] < '0' || input[at] > '9') {
                    break;
                }
                at++;
            }
            return at;
        }

        private void storeArgument(int argument, int start, int end) {
            int number = 0;
            for (int i = start; i < end; i++) {
                number = number * 10 + (input[i] - '0');
            }
            if (count < MOST_COMMANDS && argument < MOST_ARGUMENTS) {
                arguments[count][argument] = number;
            }
        }
    }
}
