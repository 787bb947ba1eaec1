/** Arguments outside what the document allows; some would be an owner or a reservation if cut to fewer bits. */
final class Wrong {
    static final int[] OWNERS = {Integer.MIN_VALUE, Integer.MIN_VALUE + 1, -32, -1, 12, 13, 16, 17, 32, 33, 64,
        256, 257, 65536, 65537, Integer.MAX_VALUE};
    static final int[] RESERVATIONS = {Integer.MIN_VALUE, Integer.MIN_VALUE + 1, -32, -1, 10, 11, 12, 16, 32, 64,
        256, 65536, Integer.MAX_VALUE};
    static final int[] SPACES = {Integer.MIN_VALUE, Integer.MIN_VALUE + 1, -1000, -1, 1001, 1024, 65536,
        Integer.MAX_VALUE};

    private Wrong() {
    }
}
