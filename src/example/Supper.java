public final class Supper {
    public static void main(String[] args) {
        LeavesRoom room = new LeavesRoom();       // nobody, no HOUSE
        int guest = room.guest(0, 6);             // KIND 0 GUEST, v 6: it sits on the least SEAT that is free
        int uncle = room.guest(2, 3);             // KIND 2 UNCLE, v 3
        for (char sign : "bear 4 q=0;thirst 3".toCharArray()) {
            room.feed(sign);                      // THE TEXT, byte by byte
        }
        System.out.println("the HOUSE is number " + room.house());
        System.out.println("the uncle likes the guest " + room.likes(uncle, guest));
        System.out.println("on seat 0 the uncle is fond " + room.sit(uncle, 0));
        System.out.println("the year is " + room.pass(1));
        System.out.println("empty cups, as bits: " + room.told(4));
        System.out.println("the guest had best sit on seat " + room.best(10 + guest));
        System.out.println("a seventh kind is " + room.guest(7, 0) + ", which is NONE: " + LeavesRoom.NONE);
        System.out.println("the mean is " + room.mean(0) + "/" + room.mean(1));
    }
}
