/** Keeps account of space in a tree of owners with limits. */
public final class QuotaTree {
    public static final int BAD = -1;
    public static final int FULL = -2;
    public static final int REFUSED = -3;

    private static final int OWNERS = 12;
    private static final int RESERVATIONS = 10;
    private static final int MOST_SPACE = 1000;
    private static final int ROOT = 0;
    private static final int NOBODY = -1;

    private final boolean[] ownerThere = new boolean[OWNERS];
    private final int[] parentOf = new int[OWNERS];
    private final int[] limitOf = new int[OWNERS];
    private final int[] usedBy = new int[OWNERS];
    private final int[] waitingAt = new int[OWNERS];

    private final boolean[] reservationThere = new boolean[RESERVATIONS];
    private final int[] holderOf = new int[RESERVATIONS];
    private final int[] leftOf = new int[RESERVATIONS];

    public QuotaTree() {
        ownerThere[ROOT] = true;
        parentOf[ROOT] = NOBODY;
        limitOf[ROOT] = MOST_SPACE;
    }

    public int add(int parent, int limit) {
        if (!isOwner(parent) || !isSpace(limit)) {
            return BAD;
        }
        int o = leastFreeOwner();
        if (o == NOBODY) {
            return FULL;
        }
        // Nothing is used by or waits at a number that is free: remove asks for a total of 0.
        ownerThere[o] = true;
        parentOf[o] = parent;
        limitOf[o] = limit;
        return o;
    }

    public boolean remove(int o) {
        if (o == ROOT || !isOwner(o) || hasChild(o) || totalOf(o) != 0) {
            return false;
        }
        dropReservationsOf(o);
        ownerThere[o] = false;
        return true;
    }

    public boolean setLimit(int o, int limit) {
        if (!isOwner(o) || !isSpace(limit)) {
            return false;
        }
        limitOf[o] = limit;
        return true;
    }

    public int move(int o, int parent) {
        if (o == ROOT || !isOwner(o) || !isOwner(parent) || isAtOrBelow(parent, o)) {
            return BAD;
        }
        if (moveIsRefused(o, parent)) {
            return REFUSED;
        }
        parentOf[o] = parent;
        return parent;
    }

    public int reserve(int o, int n) {
        if (!isOwner(o) || !isSpace(n)) {
            return BAD;
        }
        int r = leastFreeReservation();
        if (r == RESERVATIONS) {
            return FULL;
        }
        // An owner may be over its limit already; a reservation for 0 adds nothing to that.
        if (n > 0 && nearestBlocker(o, n) != NOBODY) {
            return REFUSED;
        }
        reservationThere[r] = true;
        holderOf[r] = o;
        leftOf[r] = n;
        return r;
    }

    public int use(int r, int n) {
        if (!isReservation(r) || n < 0 || n > leftOf[r]) {
            return BAD;
        }
        leftOf[r] -= n;
        usedBy[holderOf[r]] += n;
        return leftOf[r];
    }

    public int giveBack(int r) {
        if (!isReservation(r)) {
            return BAD;
        }
        reservationThere[r] = false;
        return leftOf[r];
    }

    public int release(int o, int n) {
        if (!isOwner(o) || n < 0 || n > usedBy[o]) {
            return BAD;
        }
        usedBy[o] -= n;
        waitingAt[o] += n;
        return usedBy[o];
    }

    public int free(int o) {
        if (!isOwner(o)) {
            return BAD;
        }
        int freed = 0;
        for (int p = 0; p < OWNERS; p++) {
            if (ownerThere[p] && isAtOrBelow(p, o)) {
                freed += waitingAt[p];
                waitingAt[p] = 0;
            }
        }
        return freed;
    }

    public int recover() {
        int count = 0;
        for (int r = 0; r < RESERVATIONS; r++) {
            if (reservationThere[r]) {
                reservationThere[r] = false;
                count++;
            }
        }
        return count;
    }

    public int total(int o) {
        if (!isOwner(o)) {
            return BAD;
        }
        return totalOf(o);
    }

    public int room(int o) {
        if (!isOwner(o)) {
            return BAD;
        }
        int least = MOST_SPACE;
        int at = o;
        for (int step = 0; step < OWNERS && at != NOBODY; step++) {
            int here = limitOf[at] - totalOf(at);
            if (here < least) {
                least = here;
            }
            at = parentOf[at];
        }
        // A limit may lie below the total, and a reservation for 0 is never refused.
        return least < 0 ? 0 : least;
    }

    public int blocker(int o, int n) {
        if (!isOwner(o) || !isSpace(n)) {
            return BAD;
        }
        int found = nearestBlocker(o, n);
        return found == NOBODY ? BAD : found;
    }

    public int over() {
        int owners = 0;
        for (int o = 0; o < OWNERS; o++) {
            if (ownerThere[o] && totalOf(o) > limitOf[o]) {
                owners |= 1 << o;
            }
        }
        return owners;
    }

    public int below(int o) {
        if (!isOwner(o)) {
            return 0;
        }
        int owners = 0;
        for (int p = 0; p < OWNERS; p++) {
            if (ownerThere[p] && isAtOrBelow(p, o)) {
                owners |= 1 << p;
            }
        }
        return owners;
    }

    private boolean isOwner(int o) {
        return o >= 0 && o < OWNERS && ownerThere[o];
    }

    private boolean isReservation(int r) {
        return r >= 0 && r < RESERVATIONS && reservationThere[r];
    }

    private static boolean isSpace(int n) {
        return n >= 0 && n <= MOST_SPACE;
    }

    private int leastFreeOwner() {
        for (int o = 0; o < OWNERS; o++) {
            if (!ownerThere[o]) {
                return o;
            }
        }
        return NOBODY;
    }

    /** RESERVATIONS when all are taken. */
    private int leastFreeReservation() {
        for (int r = 0; r < RESERVATIONS; r++) {
            if (!reservationThere[r]) {
                return r;
            }
        }
        return RESERVATIONS;
    }

    private boolean hasChild(int o) {
        for (int p = 0; p < OWNERS; p++) {
            if (ownerThere[p] && parentOf[p] == o) {
                return true;
            }
        }
        return false;
    }

    private void dropReservationsOf(int o) {
        for (int r = 0; r < RESERVATIONS; r++) {
            if (holderOf[r] == o) {
                reservationThere[r] = false;
            }
        }
    }

    /** Both must be owners. No way up is longer than there are owners, so OWNERS steps see all of it. */
    private boolean isAtOrBelow(int o, int top) {
        int at = o;
        for (int step = 0; step < OWNERS && at != NOBODY; step++) {
            if (at == top) {
                return true;
            }
            at = parentOf[at];
        }
        return false;
    }

    private int totalOf(int o) {
        int sum = 0;
        for (int p = 0; p < OWNERS; p++) {
            if (ownerThere[p] && isAtOrBelow(p, o)) {
                sum += usedBy[p] + waitingAt[p];
            }
        }
        for (int r = 0; r < RESERVATIONS; r++) {
            if (reservationThere[r] && isAtOrBelow(holderOf[r], o)) {
                sum += leftOf[r];
            }
        }
        return sum;
    }

    /** NOBODY when all from o on up have room for n more. */
    private int nearestBlocker(int o, int n) {
        int at = o;
        for (int step = 0; step < OWNERS && at != NOBODY; step++) {
            if (totalOf(at) + n > limitOf[at]) {
                return at;
            }
            at = parentOf[at];
        }
        return NOBODY;
    }

    private boolean moveIsRefused(int o, int parent) {
        int moved = totalOf(o);
        if (moved == 0) {
            return false;
        }
        int at = parent;
        for (int step = 0; step < OWNERS && at != NOBODY; step++) {
            // Whoever is above o already has what is moved in its total, before and after.
            if (!isAtOrBelow(o, at) && totalOf(at) + moved > limitOf[at]) {
                return true;
            }
            at = parentOf[at];
        }
        return false;
    }
}
