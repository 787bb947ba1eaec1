import java.util.ArrayList;
import java.util.List;
import java.util.TreeMap;

/**
 * The document said a second time, in another way: owners are linked objects, a move is tried and
 * taken back, room is sought one by one.
 */
final class Model {
    private static final class Owner {
        final int number;
        Owner parent;
        final List<Owner> children = new ArrayList<>();
        int limit;
        int used;
        int waiting;
        int reserved;

        Owner(int number, Owner parent, int limit) {
            this.number = number;
            this.limit = limit;
            hang(parent);
        }

        void hang(Owner newParent) {
            if (parent != null) {
                parent.children.remove(this);
            }
            parent = newParent;
            if (newParent != null) {
                newParent.children.add(this);
            }
        }

        int total() {
            int sum = used + waiting + reserved;
            for (Owner child : children) {
                sum += child.total();
            }
            return sum;
        }

        int mask() {
            int bits = 1 << number;
            for (Owner child : children) {
                bits |= child.mask();
            }
            return bits;
        }

        int free() {
            int freed = waiting;
            waiting = 0;
            for (Owner child : children) {
                freed += child.free();
            }
            return freed;
        }

        List<Owner> lineUp() {
            List<Owner> line = new ArrayList<>();
            for (Owner at = this; at != null; at = at.parent) {
                line.add(at);
            }
            return line;
        }
    }

    private static final class Reservation {
        final Owner owner;
        int left;

        Reservation(Owner owner, int left) {
            this.owner = owner;
            this.left = left;
        }
    }

    private final TreeMap<Integer, Owner> owners = new TreeMap<>();
    private final TreeMap<Integer, Reservation> reservations = new TreeMap<>();

    Model() {
        owners.put(0, new Owner(0, null, 1000));
    }

    private static int leastMissing(TreeMap<Integer, ?> map) {
        int number = 0;
        while (map.containsKey(number)) {
            number++;
        }
        return number;
    }

    private static boolean inRange(int n) {
        return 0 <= n && n <= 1000;
    }

    int add(int parent, int limit) {
        if (!owners.containsKey(parent) || !inRange(limit)) {
            return -1;
        }
        if (owners.size() == 12) {
            return -2;
        }
        int number = leastMissing(owners);
        owners.put(number, new Owner(number, owners.get(parent), limit));
        return number;
    }

    boolean remove(int o) {
        Owner owner = owners.get(o);
        if (o == 0 || owner == null || owner.total() != 0 || !owner.children.isEmpty()) {
            return false;
        }
        owner.hang(null);
        owners.remove(o);
        reservations.values().removeIf(reservation -> reservation.owner == owner);
        return true;
    }

    boolean setLimit(int o, int limit) {
        if (!owners.containsKey(o) || !inRange(limit)) {
            return false;
        }
        owners.get(o).limit = limit;
        return true;
    }

    int move(int o, int parent) {
        Owner owner = owners.get(o);
        Owner target = owners.get(parent);
        if (o == 0 || owner == null || target == null || target.lineUp().contains(owner)) {
            return -1;
        }
        List<Owner> line = target.lineUp();
        List<Integer> before = new ArrayList<>();
        for (Owner at : line) {
            before.add(at.total());
        }
        Owner old = owner.parent;
        owner.hang(target);
        for (int i = 0; i < line.size(); i++) {
            int now = line.get(i).total();
            if (now > line.get(i).limit && now > before.get(i)) {
                owner.hang(old);
                return -3;
            }
        }
        return parent;
    }

    private boolean fits(Owner owner, int n) {
        if (n == 0) {
            return true;
        }
        owner.reserved += n;
        boolean good = true;
        for (Owner at : owner.lineUp()) {
            good &= at.total() <= at.limit;
        }
        owner.reserved -= n;
        return good;
    }

    int reserve(int o, int n) {
        Owner owner = owners.get(o);
        if (owner == null || !inRange(n)) {
            return -1;
        }
        if (reservations.size() == 10) {
            return -2;
        }
        if (!fits(owner, n)) {
            return -3;
        }
        int number = leastMissing(reservations);
        reservations.put(number, new Reservation(owner, n));
        owner.reserved += n;
        return number;
    }

    int use(int r, int n) {
        Reservation reservation = reservations.get(r);
        if (reservation == null || n < 0 || n > reservation.left) {
            return -1;
        }
        reservation.left -= n;
        reservation.owner.reserved -= n;
        reservation.owner.used += n;
        return reservation.left;
    }

    int giveBack(int r) {
        Reservation reservation = reservations.remove(r);
        if (reservation == null) {
            return -1;
        }
        reservation.owner.reserved -= reservation.left;
        return reservation.left;
    }

    int release(int o, int n) {
        Owner owner = owners.get(o);
        if (owner == null || n < 0 || n > owner.used) {
            return -1;
        }
        owner.used -= n;
        owner.waiting += n;
        return owner.used;
    }

    int free(int o) {
        return owners.containsKey(o) ? owners.get(o).free() : -1;
    }

    int recover() {
        int count = reservations.size();
        for (int r = 0; r < 10; r++) {
            giveBack(r);
        }
        return count;
    }

    int total(int o) {
        return owners.containsKey(o) ? owners.get(o).total() : -1;
    }

    int room(int o) {
        if (!owners.containsKey(o)) {
            return -1;
        }
        int n = 1000;
        while (!fits(owners.get(o), n)) {
            n--;
        }
        return n;
    }

    int blocker(int o, int n) {
        if (!owners.containsKey(o) || !inRange(n)) {
            return -1;
        }
        for (Owner at : owners.get(o).lineUp()) {
            if (at.total() + n > at.limit) {
                return at.number;
            }
        }
        return -1;
    }

    int over() {
        int bits = 0;
        for (Owner owner : owners.values()) {
            if (owner.total() > owner.limit) {
                bits |= 1 << owner.number;
            }
        }
        return bits;
    }

    int below(int o) {
        return owners.containsKey(o) ? owners.get(o).mask() : 0;
    }
}
