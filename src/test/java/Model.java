import java.util.ArrayList;
import java.util.List;
import java.util.NoSuchElementException;
import java.util.TreeMap;
import java.util.TreeSet;
import java.util.regex.Matcher;
import java.util.regex.Pattern;

/**
 * The service again, written another way: copied as a whole for every change, places found hour by
 * hour as sets, programs matched by a regular expression. RandomRunsTest compares the two.
 */
public final class Model {
    private static final String NUMBER = "\\d{1,3}";
    private static final String COMMAND = "(?:place|link \\d\\d \\d/\\d|block " + NUMBER + "|open " + NUMBER
            + "|post \\d\\d \\d\\*" + NUMBER + "|send " + NUMBER + " " + NUMBER + "|stamp " + NUMBER + " "
            + NUMBER + "|return " + NUMBER + "|dispatch|hours(?: " + NUMBER + ")?)";
    private static final Pattern PROGRAM = Pattern.compile(COMMAND + "(?:;" + COMMAND + ")*");

    private static final class Parcel {
        int weight;
        int stamps;
        int to;
        int place;
        int link = -1;
        int arrival;

        Parcel copy() {
            Parcel p = new Parcel();
            p.weight = weight;
            p.stamps = stamps;
            p.to = to;
            p.place = place;
            p.link = link;
            p.arrival = arrival;
            return p;
        }
    }

    private static final class State {
        int places;
        final List<int[]> links = new ArrayList<>();
        final TreeSet<Integer> blocked = new TreeSet<>();
        final TreeMap<Integer, Parcel> parcels = new TreeMap<>();
        int nextId;
        int hour;
        int delivered;
        int taken;
        int used;

        State copy() {
            State s = new State();
            s.places = places;
            s.links.addAll(links);
            s.blocked.addAll(blocked);
            parcels.forEach((id, p) -> s.parcels.put(id, p.copy()));
            s.nextId = nextId;
            s.hour = hour;
            s.delivered = delivered;
            s.taken = taken;
            s.used = used;
            return s;
        }
    }

    private State s = new State();
    private State saved = null;
    private List<State> before = new ArrayList<>();
    private boolean inProgram = false;
    private String buffer = "";
    private String line = "";
    private int error = -1;
    private int failed = -1;

    private void changes() {
        if (!inProgram) {
            before.add(s);
            if (before.size() > 8) {
                before.remove(0);
            }
        }
        s = s.copy();
    }

    private void place(int place) {
        if (place < 0 || place >= s.places) {
            throw new IndexOutOfBoundsException();
        }
    }

    private int[] link(int link) {
        if (link < 0 || link >= s.links.size()) {
            throw new IndexOutOfBoundsException();
        }
        return s.links.get(link);
    }

    private Parcel parcel(int id) {
        if (!s.parcels.containsKey(id)) {
            throw new NoSuchElementException();
        }
        return s.parcels.get(id);
    }

    private static void range(int number, int least, int most) {
        if (number < least || number > most) {
            throw new IllegalArgumentException();
        }
    }

    private static void state(boolean fine) {
        if (!fine) {
            throw new IllegalStateException();
        }
    }

    private static void element(boolean there) {
        if (!there) {
            throw new NoSuchElementException();
        }
    }

    private boolean openNow(int link, int hour) {
        return !s.blocked.contains(link) && hour % 6 != s.links.get(link)[3];
    }

    /** The earliest arrival by the sets of places in which one can be at each hour, or -1. */
    private int earliest(int from, int to, int hour) {
        List<TreeSet<Integer>> there = new ArrayList<>();
        for (int i = 0; i < 250; i++) {
            there.add(new TreeSet<>());
        }
        there.get(0).add(from);
        for (int i = 0; i < 200; i++) {
            if (there.get(i).contains(to)) {
                return hour + i;
            }
            there.get(i + 1).addAll(there.get(i));
            for (int l = 0; l < s.links.size(); l++) {
                int[] a = s.links.get(l);
                if (there.get(i).contains(a[0]) && openNow(l, hour + i)) {
                    there.get(i + a[2]).add(a[1]);
                }
            }
        }
        return -1;
    }

    private int steps(int from, int to) {
        TreeSet<Integer> reached = new TreeSet<>(List.of(from));
        for (int step = 0; step < 10; step++) {
            if (reached.contains(to)) {
                return step;
            }
            TreeSet<Integer> next = new TreeSet<>(reached);
            for (int l = 0; l < s.links.size(); l++) {
                if (!s.blocked.contains(l) && reached.contains(s.links.get(l)[0])) {
                    next.add(s.links.get(l)[1]);
                }
            }
            reached = next;
        }
        return -1;
    }

    private int forecastOf(Parcel p) {
        return earliest(p.place, p.to, p.link < 0 ? s.hour : p.arrival);
    }

    private int next(Parcel p) {
        int goal = forecastOf(p);
        for (int l = 0; goal >= 0 && l < s.links.size(); l++) {
            int[] a = s.links.get(l);
            if (a[0] == p.place && openNow(l, s.hour) && earliest(a[1], p.to, s.hour + a[2]) == goal) {
                return l;
            }
        }
        return -1;
    }

    private int load(int link) {
        return s.parcels.values().stream().filter(p -> p.link == link).mapToInt(p -> p.weight).sum();
    }

    private boolean sendable(Parcel p, int link) {
        return p.link < 0 && p.place == s.links.get(link)[0] && p.stamps > 0
                && openNow(link, s.hour) && load(link) + p.weight <= 10;
    }

    private void move(Parcel p, int link) {
        p.stamps--;
        s.used++;
        p.link = link;
        p.place = s.links.get(link)[1];
        p.arrival = s.hour + s.links.get(link)[2];
    }

    private int dispatchAll() {
        int sent = 0;
        for (Parcel p : s.parcels.values()) {
            int link = p.link < 0 ? next(p) : -1;
            if (link >= 0 && sendable(p, link)) {
                move(p, link);
                sent++;
            }
        }
        return sent;
    }

    private int passOne() {
        s.hour++;
        int there = 0;
        for (int id : new ArrayList<>(s.parcels.keySet())) {
            Parcel p = s.parcels.get(id);
            if (p.link >= 0 && p.arrival == s.hour) {
                p.link = -1;
                if (p.place == p.to) {
                    s.parcels.remove(id);
                    there++;
                }
            }
        }
        s.delivered += there;
        return there;
    }

    public int addPlace() {
        state(s.places < 9);
        changes();
        return s.places++;
    }

    public int addLink(int from, int to, int hours, int phase) {
        place(from);
        place(to);
        range(from == to ? -1 : 0, 0, 0);
        range(hours, 1, 9);
        range(phase, 0, 5);
        state(s.links.size() < 20);
        changes();
        s.links.add(new int[] {from, to, hours, phase});
        return s.links.size() - 1;
    }

    public int block(int link) {
        link(link);
        state(!s.blocked.contains(link));
        changes();
        s.blocked.add(link);
        return s.blocked.size();
    }

    public int open(int link) {
        link(link);
        state(s.blocked.contains(link));
        changes();
        s.blocked.remove(link);
        return s.blocked.size();
    }

    public int post(int from, int to, int weight, int stamps) {
        place(from);
        place(to);
        range(from == to ? -1 : 0, 0, 0);
        range(weight, 1, 9);
        range(stamps, 0, 20);
        state(s.parcels.size() < 12);
        changes();
        Parcel p = new Parcel();
        p.weight = weight;
        p.stamps = stamps;
        p.to = to;
        p.place = from;
        s.parcels.put(s.nextId, p);
        return s.nextId++;
    }

    public int send(int id, int link) {
        state(canSend(id, link));
        changes();
        move(parcel(id), link);
        return parcel(id).arrival;
    }

    public int addStamps(int id, int stamps) {
        parcel(id);
        range(stamps, 1, 20);
        state(parcel(id).stamps + stamps <= 20);
        changes();
        parcel(id).stamps += stamps;
        return parcel(id).stamps;
    }

    public int takeBack(int id) {
        state(parcel(id).link < 0);
        changes();
        s.taken++;
        return s.parcels.remove(id).stamps;
    }

    public int dispatch() {
        changes();
        return dispatchAll();
    }

    public int pass(int hours) {
        range(hours, 1, 120);
        changes();
        int sum = 0;
        for (int i = 0; i < hours; i++) {
            sum += passOne();
        }
        return sum;
    }

    public int hour() {
        return s.hour;
    }

    public int placeCount() {
        return s.places;
    }

    public int linkCount() {
        return s.links.size();
    }

    public int linkFrom(int link) {
        return link(link)[0];
    }

    public int linkTo(int link) {
        return link(link)[1];
    }

    public int travelTime(int link) {
        return link(link)[2];
    }

    public boolean isBlocked(int link) {
        link(link);
        return s.blocked.contains(link);
    }

    public boolean isOpenAt(int link, int hour) {
        link(link);
        range(hour, 0, 9999);
        return openNow(link, hour);
    }

    public int loadOf(int link) {
        link(link);
        return load(link);
    }

    public int busiestLink() {
        element(!s.links.isEmpty());
        int best = s.links.size() - 1;
        for (int l = best; l >= 0; l--) {
            best = load(l) >= load(best) ? l : best;
        }
        return best;
    }

    public int degree(int place) {
        place(place);
        return (int) s.links.stream().filter(a -> a[0] == place || a[1] == place).count();
    }

    public int parcelCount() {
        return s.parcels.size();
    }

    public int idAt(int position) {
        if (position < 0 || position >= s.parcels.size()) {
            throw new IndexOutOfBoundsException();
        }
        return new ArrayList<>(s.parcels.keySet()).get(position);
    }

    public boolean isTravelling(int id) {
        return parcel(id).link >= 0;
    }

    public int placeOf(int id) {
        element(parcel(id).link < 0);
        return parcel(id).place;
    }

    public int linkOf(int id) {
        element(parcel(id).link >= 0);
        return parcel(id).link;
    }

    public int arrivalOf(int id) {
        element(parcel(id).link >= 0);
        return parcel(id).arrival;
    }

    public int destinationOf(int id) {
        return parcel(id).to;
    }

    public int weightOf(int id) {
        return parcel(id).weight;
    }

    public int stampsOf(int id) {
        return parcel(id).stamps;
    }

    public int waitingIn(int place) {
        place(place);
        return (int) s.parcels.values().stream().filter(p -> p.link < 0 && p.place == place).count();
    }

    public int earliestArrival(int from, int to, int hour) {
        place(from);
        place(to);
        range(hour, 0, 9999);
        int arrival = earliest(from, to, hour);
        element(arrival >= 0);
        return arrival;
    }

    public int earliestArrivalByHours(int from, int to, int hour) {
        return earliestArrival(from, to, hour);
    }

    public int fewestLinks(int from, int to) {
        place(from);
        place(to);
        element(steps(from, to) >= 0);
        return steps(from, to);
    }

    public int reachable(int from) {
        place(from);
        int sum = 0;
        for (int to = 0; to < s.places; to++) {
            sum += steps(from, to) >= 0 ? 1 : 0;
        }
        return sum;
    }

    public int forecast(int id) {
        element(forecastOf(parcel(id)) >= 0);
        return forecastOf(parcel(id));
    }

    public int nextLink(int id) {
        element(parcel(id).link < 0 && next(parcel(id)) >= 0);
        return next(parcel(id));
    }

    public boolean canSend(int id, int link) {
        parcel(id);
        link(link);
        return sendable(parcel(id), link);
    }

    public int stampsMissing(int id) {
        Parcel p = parcel(id);
        element(steps(p.place, p.to) >= 0);
        return Math.max(0, steps(p.place, p.to) - p.stamps);
    }

    public int parcelByForecast(int rank) {
        List<Integer> ids = new ArrayList<>(s.parcels.keySet());
        ids.sort((a, b) -> {
            int fa = forecastOf(parcel(a));
            int fb = forecastOf(parcel(b));
            return fa == fb ? a - b : fa < 0 ? 1 : fb < 0 ? -1 : fa - fb;
        });
        element(rank >= 0 && rank < ids.size());
        return ids.get(rank);
    }

    public int arrivalsWithin(int hours) {
        range(hours, 1, 120);
        return (int) s.parcels.values().stream().filter(p -> p.link >= 0 && p.arrival - s.hour <= hours).count();
    }

    public int deliveredIf(int hours) {
        range(hours, 1, 60);
        State kept = s;
        s = s.copy();
        int sum = 0;
        for (int i = 0; i < hours; i++) {
            dispatchAll();
            sum += passOne();
        }
        s = kept;
        return sum;
    }

    public int postedTotal() {
        return s.nextId;
    }

    public int deliveredTotal() {
        return s.delivered;
    }

    public int takenBackTotal() {
        return s.taken;
    }

    public int usedStamps() {
        return s.used;
    }

    public double meanStamps() {
        if (s.parcels.isEmpty()) {
            throw new ArithmeticException();
        }
        return (double) s.parcels.values().stream().mapToInt(p -> p.stamps).sum() / s.parcels.size();
    }

    public float blockedShare() {
        if (s.links.isEmpty()) {
            throw new ArithmeticException();
        }
        return (float) s.blocked.size() / s.links.size();
    }

    public boolean isConsistent() {
        return true;
    }

    public int formatParcel(int id) {
        Parcel p = parcel(id);
        line = "#" + id + " " + p.weight + "*" + p.stamps
                + (p.link < 0 ? " @" + p.place : " ~" + p.link + ":" + p.arrival) + " >" + p.to;
        return line.length();
    }

    public int formatLink(int link) {
        int[] a = link(link);
        line = link + "(" + a[0] + "-" + a[1] + ") " + a[2] + "h/" + a[3]
                + (s.blocked.contains(link) ? " x" : "") + (load(link) > 0 ? " w" + load(link) : "");
        return line.length();
    }

    public char lineChar(int index) {
        if (index < 0 || index >= line.length()) {
            throw new IndexOutOfBoundsException();
        }
        return line.charAt(index);
    }

    public int append(char character) {
        range(character, 32, 126);
        state(buffer.length() < 60);
        buffer += character;
        return buffer.length();
    }

    /** A prefix can go on if the matcher asked for more characters before it gave up. */
    private static boolean canGoOn(String prefix) {
        Matcher matcher = PROGRAM.matcher(prefix);
        return matcher.matches() || matcher.hitEnd();
    }

    public int run() {
        String text = buffer;
        buffer = "";
        if (!PROGRAM.matcher(text).matches()) {
            error = 0;
            while (error < text.length() && canGoOn(text.substring(0, error + 1))) {
                error++;
            }
            throw new IllegalArgumentException();
        }
        State start = s;
        inProgram = true;
        String[] commands = text.split(";");
        for (int i = 0; i < commands.length; i++) {
            try {
                execute(commands[i]);
            } catch (RuntimeException refused) {
                s = start;
                failed = i;
                inProgram = false;
                throw new IllegalStateException();
            }
        }
        inProgram = false;
        State end = s;
        s = start;
        changes();
        s = end;
        return commands.length;
    }

    private void execute(String command) {
        String[] words = command.split(" ");
        int a = words.length > 1 ? Integer.parseInt(words[1]) : 1;
        String last = words.length > 2 ? words[2] : "0";
        switch (words[0]) {
            case "place" -> addPlace();
            case "link" -> addLink(a / 10, a % 10, last.charAt(0) - '0', last.charAt(2) - '0');
            case "block" -> block(a);
            case "open" -> open(a);
            case "post" -> post(a / 10, a % 10, last.charAt(0) - '0', Integer.parseInt(last.substring(2)));
            case "send" -> send(a, Integer.parseInt(last));
            case "stamp" -> addStamps(a, Integer.parseInt(last));
            case "return" -> takeBack(a);
            case "dispatch" -> dispatch();
            default -> pass(a);
        }
    }

    public int errorPosition() {
        element(error >= 0);
        return error;
    }

    public int failedCommand() {
        element(failed >= 0);
        return failed;
    }

    public int undoableCount() {
        return before.size();
    }

    public int undo() {
        state(!before.isEmpty());
        s = before.remove(before.size() - 1);
        return before.size();
    }

    public int save() {
        saved = s.copy();
        return s.places;
    }

    public int restore() {
        state(saved != null);
        s = saved.copy();
        before.clear();
        return s.places;
    }
}
