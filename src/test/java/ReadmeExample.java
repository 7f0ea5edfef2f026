import java.nio.charset.StandardCharsets;
import java.util.Arrays;

final class ReadmeExample {
    /** Puts a text on the tape, which is empty: twenty bytes a call; then what was fed too much is cut off. */
    static void put(ContactHouse house, String text) {
        byte[] bytes = text.getBytes(StandardCharsets.ISO_8859_1);
        for (int from = 0; from < bytes.length; from += 20) {
            byte[] next = Arrays.copyOfRange(bytes, from, from + 20);
            int[] n = new int[5];
            for (int i = 0; i < 20; i++) {
                n[i / 4] = n[i / 4] << 8 | next[i] & 255;
            }
            house.feed(n[0], n[1], n[2], n[3], n[4]);
        }
        house.end(bytes.length);
    }

    public static void main(String[] args) {
        ContactHouse house = new ContactHouse();
        put(house, "K1AB");
        int a = house.station(0, 5, 0, 0);       // a SINGLE of zone 5, at square 0, 0
        put(house, "G3XY");
        int b = house.station(1, 14, 30, 40);    // a MULTI of zone 14, at square 30, 40

        put(house, "q 1000 G3XY 1 7\nq 1100 G4XY 2 8\nq 12oo G3XY 3 9\nx good night");
        System.out.println("entries of K1AB: " + house.log(a, 0));
        System.out.println("wrong lines: " + house.count(2) + ", the first: " + house.wrong(0));
        put(house, "q 1010 K1AB 7 1\nq 1110 K1AB 8 2");
        System.out.println("entries of G3XY: " + house.log(b, 0));

        System.out.println("the first contact's pair: " + house.pair(a, 0, 0));
        System.out.println("the second one: why " + house.why(a, 0, 1) + ", meant " + house.meant(a, 0, 1));
        System.out.println("the remark: " + house.pair(a, 0, 2) + ", finding " + house.finding());

        put(house, "+ far ? - zone mine 10 1");  // the distance, and 10 if the zone is above one's own, else 1
        System.out.println("words of the rule: " + house.rule());
        System.out.println("totals: " + house.total(a) + " and " + house.total(b));
        System.out.println("edition: " + house.publish() + ", its total of K1AB: " + house.known(1, a));
    }
}
